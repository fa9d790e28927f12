def qR33 : List (Option Nat) := [some 36, some 40, some 44, some 48, some 52, some 56, some 60, some 64, some 68, some 72]
def qR34 : List (Option Nat) := [some 38, some 42, some 46, some 50, some 54, some 58, some 62, some 66, some 70, some 74]
/-! THE METHODS AS FUNCTIONS OF NUMBERS, by program out of their bytes -/
def fX5_hasRoom (μ : qMu) : Option (Int) :=
  if 400 < wr ((rd μ 1 5) + 20) then
    some 0
  else
    some 1
def bX5_append_3 (n : Nat) (w1 : Int) (z2 : Int) (μ : qMu) : Option ((Int × qMu) ⊕ (qMu)) :=
  if wr z2 < 0 then
    some (.inr μ)
  else
    if wr (rd μ 1 5) < 400 then
      (qSa μ 2 400 (rd μ 1 5) (qNr .byte (i2b (iush w1 z2)))).bind fun μ3 =>
      (qPf μ3 1 5 ((rd μ3 1 5) + 1)).bind fun μ4 =>
      some (.inl ((z2 + (-8)), μ4))
    else
      some (.inr μ)
def fX5_append (n : Nat) (p0 : Int) (μ : qMu) : Option (qMu) :=
  (lp (fun x : Int × qMu => bX5_append_3 n p0 x.1 x.2) n (24, μ)).bind fun y5 =>
  some y5
def fX5_fedBytes (μ : qMu) : Option (Int) :=
  some (rd μ 1 5)
def fX9_feed (n : Nat) (p0 : Int) (p1 : Int) (p2 : Int) (p3 : Int) (p4 : Int) (μ : qMu) : Option (Int × qMu) :=
  (fX5_hasRoom μ).bind fun y1 =>
  if wr y1 = 0 then
    some ((-2), μ)
  else
    (fX5_append n p0 μ).bind fun y3 =>
    (fX5_append n p1 y3).bind fun y4 =>
    (fX5_append n p2 y4).bind fun y5 =>
    (fX5_append n p3 y5).bind fun y6 =>
    (fX5_append n p4 y6).bind fun y7 =>
    (fX5_fedBytes y7).bind fun y8 =>
    some (y8, y7)
def fX5_byteAt (p0 : Int) (μ : qMu) : Option (Int) :=
  if wr p0 < 0 then
    some 0
  else
    if wr p0 < 400 then
      (qLd μ 2 400 p0).bind fun x3 =>
      some (ian x3 255)
    else
      some 0
def fX5_isBlank (p0 : Int) (μ : qMu) : Option (Int) :=
  if wr p0 = 32 then
    some 1
  else
    if wr p0 = 10 then
      some 1
    else
      some 0
def fX5_isLetter (p0 : Int) (μ : qMu) : Option (Int) :=
  if wr p0 < 97 then
    some 0
  else
    if 122 < wr p0 then
      some 0
    else
      some 1
def bX5_takeWord_0 (n : Nat) (μ : qMu) : Option ((qMu) ⊕ (qMu)) :=
  if wr (rd μ 1 11) < wr (rd μ 1 6) then
    (fX5_byteAt (rd μ 1 11) μ).bind fun y2 =>
    (fX5_isLetter y2 μ).bind fun y3 =>
    if wr y3 = 0 then
      some (.inr μ)
    else
      (qPf μ 1 11 ((rd μ 1 11) + 1)).bind fun μ5 =>
      some (.inl μ5)
  else
    some (.inr μ)
def fX5_takeWord (n : Nat) (μ : qMu) : Option (qMu) :=
  (lp (fun x : qMu => bX5_takeWord_0 n x) n μ).bind fun y6 =>
  (qPf y6 1 9 (if 8 < wr ((rd y6 1 11) - (rd y6 1 10)) then 4 else 1)).bind fun μ10 =>
  some μ10
def fX5_isDigit (p0 : Int) (μ : qMu) : Option (Int) :=
  if wr p0 < 48 then
    some 0
  else
    if 57 < wr p0 then
      some 0
    else
      some 1
def bX5_takeNumber_5 (n : Nat) (μ : qMu) : Option ((qMu) ⊕ (qMu)) :=
  if wr (rd μ 1 11) < wr (rd μ 1 6) then
    (fX5_byteAt (rd μ 1 11) μ).bind fun y3 =>
    (fX5_isDigit y3 μ).bind fun y4 =>
    if wr y4 = 0 then
      some (.inr μ)
    else
      (fX5_byteAt (rd μ 1 11) μ).bind fun y6 =>
      (qPf μ 1 12 ((((rd μ 1 12) * 10) + y6) - 48)).bind fun μ7 =>
      (qPf μ7 1 11 ((rd μ7 1 11) + 1)).bind fun μ8 =>
      some (.inl μ8)
  else
    some (.inr μ)
def fX5_takeNumber (n : Nat) (μ : qMu) : Option (qMu) :=
  (qPf μ 1 12 0).bind fun μ1 =>
  (lp (fun x : qMu => bX5_takeNumber_5 n x) n μ1).bind fun y9 =>
  (qPf y9 1 9 (if 2 < wr ((rd y9 1 11) - (rd y9 1 10)) then 4 else 2)).bind fun μ13 =>
  some μ13
def bX5_advance_0 (n : Nat) (μ : qMu) : Option ((qMu) ⊕ (qMu)) :=
  if wr (rd μ 1 11) < wr (rd μ 1 6) then
    (fX5_byteAt (rd μ 1 11) μ).bind fun y2 =>
    (fX5_isBlank y2 μ).bind fun y3 =>
    if wr y3 = 0 then
      some (.inr μ)
    else
      (qPf μ 1 11 ((rd μ 1 11) + 1)).bind fun μ5 =>
      some (.inl μ5)
  else
    some (.inr μ)
def fX5_advance (n : Nat) (μ : qMu) : Option (qMu) :=
  (lp (fun x : qMu => bX5_advance_0 n x) n μ).bind fun y6 =>
  (qPf y6 1 10 (rd y6 1 11)).bind fun μ7 =>
  if wr (rd μ7 1 10) < wr (rd μ7 1 6) then
    (fX5_byteAt (rd μ7 1 10) μ7).bind fun y9 =>
    (fX5_isLetter y9 μ7).bind fun y10 =>
    if wr y10 = 0 then
      (fX5_byteAt (rd μ7 1 10) μ7).bind fun y12 =>
      (fX5_isDigit y12 μ7).bind fun y13 =>
      if wr y13 = 0 then
        (fX5_byteAt (rd μ7 1 10) μ7).bind fun y15 =>
        (qPf μ7 1 9 (if wr y15 = 59 then 3 else 4)).bind fun μ19 =>
        (qPf μ19 1 11 ((rd μ19 1 11) + 1)).bind fun μ20 =>
        some μ20
      else
        (fX5_takeNumber n μ7).bind fun y21 =>
        some y21
    else
      (fX5_takeWord n μ7).bind fun y22 =>
      some y22
  else
    (qPf μ7 1 9 0).bind fun μ23 =>
    some μ23
def bX1_clear_2 (n : Nat) (w0 : Nat) (w1 : Int) (z2 : Int) (μ : qMu) : Option ((Int × qMu) ⊕ (qMu)) :=
  if wr z2 < 64 then
    (qSa μ (w0 + 1) 64 z2 0).bind fun μ2 =>
    some (.inl ((z2 + 1), μ2))
  else
    some (.inr μ)
def fX1_clear (n : Nat) (g : Nat) (p0 : Int) (μ : qMu) : Option (qMu) :=
  (lp (fun x : Int × qMu => bX1_clear_2 n g p0 x.1 x.2) n (0, μ)).bind fun y3 =>
  (qPf y3 g 1 p0).bind fun μ4 =>
  (qPf μ4 g 2 0).bind fun μ5 =>
  some μ5
def fX5_begin (n : Nat) (p0 : Int) (μ : qMu) : Option (qMu) :=
  (fX1_clear n 3 p0 μ).bind fun y1 =>
  (fX1_clear n 5 p0 y1).bind fun y2 =>
  some y2
def bX5_isWord_28 (n : Nat) (w1 : Nat) (z2 : Int) (μ : qMu) : Option ((Int) ⊕ ((Unit) ⊕ (Int))) :=
  if wr z2 < wr (qsl w1) then
    (fX5_byteAt ((rd μ 1 10) + z2) μ).bind fun y4 =>
    (qsc w1 z2).bind fun x5 =>
    if wr y4 = wr x5 then
      some (.inl (z2 + 1))
    else
      some (.inr (.inr 0))
  else
    some (.inr (.inl ()))
def fX5_isWord (n : Nat) (p0 : Nat) (μ : qMu) : Option (Int) :=
  if wr (rd μ 1 9) = 1 then
    if wr ((rd μ 1 11) - (rd μ 1 10)) = wr (qsl p0) then
      (lp (fun x : Int => bX5_isWord_28 n p0 x μ) n 0).bind fun y7 =>
      Sum.elim (fun b8 =>
        some 1)
        (fun r9 => some r9) y7
    else
      some 0
  else
    some 0
def fX5_fail (p0 : Int) (μ : qMu) : Option (Int × qMu) :=
  (qPf μ 1 7 (if wr (rd μ 1 9) = 4 then 1 else p0)).bind fun μ4 =>
  (qPf μ4 1 8 (rd μ4 1 10)).bind fun μ5 =>
  some (0, μ5)
def fX5_expectNumber (p0 : Int) (p1 : Int) (μ : qMu) : Option (Int × qMu) :=
  if wr (rd μ 1 9) = 2 then
    if wr (rd μ 1 12) < wr p0 then
      (fX5_fail 3 μ).bind fun y3 =>
      if wr y3.1 = 0 then
        some (0, y3.2)
      else
        some (1, y3.2)
    else
      if wr p1 < wr (rd μ 1 12) then
        (fX5_fail 3 μ).bind fun y6 =>
        if wr y6.1 = 0 then
          some (0, y6.2)
        else
          some (1, y6.2)
      else
        some (1, μ)
  else
    (fX5_fail 2 μ).bind fun y8 =>
    (qbl y8.1).bind fun x9 =>
    some (x9, y8.2)
def fX5_expectSemicolon (μ : qMu) : Option (Int × qMu) :=
  if wr (rd μ 1 9) = 3 then
    some (1, μ)
  else
    (fX5_fail 2 μ).bind fun y2 =>
    if wr y2.1 = 0 then
      some (0, y2.2)
    else
      some (1, y2.2)
def fX5_readVertices (n : Nat) (μ : qMu) : Option (Int × qMu) :=
  (fX5_advance n μ).bind fun y1 =>
  (fX5_expectNumber 1 8 y1).bind fun y2 =>
  if wr y2.1 = 0 then
    some (0, y2.2)
  else
    (fX5_begin n (rd y2.2 1 12) y2.2).bind fun y4 =>
    (fX5_advance n y4).bind fun y5 =>
    (fX5_expectSemicolon y5).bind fun y6 =>
    (qbl y6.1).bind fun x7 =>
    some (x7, y6.2)
def fX6_clear (q : Nat) (μ : qMu) : Option (qMu) :=
  (qPf μ q 3 0).bind fun μ1 =>
  (qPf μ1 q 4 0).bind fun μ2 =>
  some μ2
def fX6_isFull (q : Nat) (μ : qMu) : Option (Int) :=
  if wr (rd μ q 3) < 8 then
    some 0
  else
    some 1
def bX6_insertFalling_5 (n : Nat) (w0 : Nat) (w1 : Int) (z2 : Int) (μ : qMu) : Option ((Int × qMu) ⊕ (Int × qMu)) :=
  if 0 < wr z2 then
    (qLd μ (w0 + 2) 8 (z2 - 1)).bind fun x2 =>
    if wr x2 < wr w1 then
      (qLd μ (w0 + 2) 8 (z2 - 1)).bind fun x4 =>
      (qSa μ (w0 + 2) 8 z2 x4).bind fun μ5 =>
      some (.inl ((z2 + (-1)), μ5))
    else
      some (.inr (z2, μ))
  else
    some (.inr (z2, μ))
def fX6_insertFalling (n : Nat) (q : Nat) (p0 : Int) (μ : qMu) : Option (qMu) :=
  (lp (fun x : Int × qMu => bX6_insertFalling_5 n q p0 x.1 x.2) n ((rd μ q 3), μ)).bind fun y6 =>
  (qSa y6.2 (q + 2) 8 y6.1 p0).bind fun μ7 =>
  some μ7
def fX6_append (n : Nat) (q : Nat) (p0 : Int) (μ : qMu) : Option (qMu) :=
  (fX6_isFull q μ).bind fun y1 =>
  if wr y1 = 0 then
    (qSa μ (q + 1) 8 (rd μ q 3) p0).bind fun μ3 =>
    (fX6_insertFalling n q p0 μ3).bind fun y4 =>
    (qPf y4 q 3 ((rd y4 q 3) + 1)).bind fun μ5 =>
    (qPf μ5 q 4 ((rd μ5 q 4) + p0)).bind fun μ6 =>
    some μ6
  else
    some μ
def fX6_total (q : Nat) (μ : qMu) : Option (Int) :=
  some (rd μ q 4)
def fX6_length (q : Nat) (μ : qMu) : Option (Int) :=
  some (rd μ q 3)
def fX1_put (g : Nat) (p0 : Int) (p1 : Int) (p2 : Int) (μ : qMu) : Option (qMu) :=
  (qLd μ (g + 1) 64 ((p0 * 8) + p1)).bind fun x1 =>
  (qSa μ (g + 1) 64 ((p0 * 8) + p1) (x1 + p2)).bind fun μ2 =>
  (if wr p0 = wr p1 then
    some μ2
  else
    (qLd μ2 (g + 1) 64 ((p1 * 8) + p0)).bind fun x5 =>
    (qSa μ2 (g + 1) 64 ((p1 * 8) + p0) (x5 + p2)).bind fun μ6 =>
    some μ6 : Option (qMu)).bind fun y4 =>
  (qPf y4 g 2 ((rd y4 g 2) + p2)).bind fun μ7 =>
  some μ7
def bX6_buildWithLoops_4 (n : Nat) (w0 : Nat) (w1 : Nat) (z2 : Int) (z3 : Int) (μ : qMu) : Option ((Int × Int × qMu) ⊕ (qMu)) :=
  if wr z3 < wr (rd μ w0 3) then
    (qLd μ (w0 + 3) 8 z3).bind fun x2 =>
    (fX1_put w1 z3 z3 (idv x2 2) μ).bind fun y3 =>
    (qLd y3 (w0 + 3) 8 z3).bind fun x4 =>
    (if wr (irm x4 2) = 0 then
      (qLd y3 (w0 + 3) 8 z3).bind fun x7 =>
      if wr (irm x7 2) = 0 then
        some (z2, y3)
      else
        (fX1_put w1 z2 z3 1 y3).bind fun y9 =>
        some ((-1), y9)
    else
      if wr z2 = (-1) then
        some (z3, y3)
      else
        (qLd y3 (w0 + 3) 8 z3).bind fun x11 =>
        if wr (irm x11 2) = 0 then
          some (z2, y3)
        else
          (fX1_put w1 z2 z3 1 y3).bind fun y13 =>
          some ((-1), y13) : Option (Int × qMu)).bind fun y6 =>
    some (.inl (y6.1, (z3 + 1), y6.2))
  else
    some (.inr μ)
def fX6_buildWithLoops (n : Nat) (q : Nat) (p0 : Nat) (μ : qMu) : Option (qMu) :=
  (lp (fun x : Int × Int × qMu => bX6_buildWithLoops_4 n q p0 x.1 x.2.1 x.2.2) n ((-1), 0, μ)).bind fun y14 =>
  some y14
def bX6_neediestBut_7 (n : Nat) (w0 : Nat) (w1 : Int) (z2 : Int) (z3 : Int) (z4 : Int) (μ : qMu) : Option ((Int × Int × Int) ⊕ (Int)) :=
  if wr z4 < wr (rd μ w0 3) then
    (qLd μ (w0 + 3) 8 z4).bind fun x2 =>
    (if wr z3 < wr x2 then
      if wr (ian (ishr w1 z4) 1) = 0 then
        (qLd μ (w0 + 3) 8 z4).bind fun x6 =>
        some (z4, x6)
      else
        some (z2, z3)
    else
      some (z2, z3) : Option (Int × Int)).bind fun y4 =>
    some (.inl (y4.1, y4.2, (z4 + 1)))
  else
    some (.inr z2)
def fX6_neediestBut (n : Nat) (q : Nat) (p0 : Int) (μ : qMu) : Option (Int) :=
  (lp (fun x : Int × Int × Int => bX6_neediestBut_7 n q p0 x.1 x.2.1 x.2.2 μ) n ((-1), 0, 0)).bind fun y7 =>
  some y7
def fX6_join (q : Nat) (p0 : Nat) (p1 : Int) (p2 : Int) (μ : qMu) : Option (qMu) :=
  if wr p2 = (-1) then
    some μ
  else
    (fX1_put p0 p1 p2 1 μ).bind fun y2 =>
    (qLd y2 (q + 3) 8 p1).bind fun x3 =>
    (qSa y2 (q + 3) 8 p1 (x3 - 1)).bind fun μ4 =>
    (qLd μ4 (q + 3) 8 p2).bind fun x5 =>
    (qSa μ4 (q + 3) 8 p2 (x5 - 1)).bind fun μ6 =>
    some μ6
def bX6_buildWithoutLoops_2 (n : Nat) (w0 : Nat) (w1 : Nat) (z2 : Int) (μ : qMu) : Option ((Int × qMu) ⊕ ((qMu) ⊕ (qMu))) :=
  if wr z2 < 16 then
    (fX6_neediestBut n w0 0 μ).bind fun y2 =>
    if wr y2 = (-1) then
      some (.inr (.inr μ))
    else
      (fX6_neediestBut n w0 (ishl 1 y2) μ).bind fun y4 =>
      (fX6_join w0 w1 y2 y4 μ).bind fun y5 =>
      some (.inl ((z2 + 1), y5))
  else
    some (.inr (.inl μ))
def fX6_buildWithoutLoops (n : Nat) (q : Nat) (p0 : Nat) (μ : qMu) : Option (qMu) :=
  (lp (fun x : Int × qMu => bX6_buildWithoutLoops_2 n q p0 x.1 x.2) n (0, μ)).bind fun y6 =>
  Sum.elim (fun b7 =>
    some b7)
    (fun r8 => some r8) y6
def bX6_buildSimple_40 (n : Nat) (w0 : Nat) (w1 : Nat) (w2 : Int) (w3 : Int) (z4 : Int) (z5 : Int) (μ : qMu) : Option ((Int × Int × qMu) ⊕ (qMu)) :=
  if 0 < wr z5 then
    (fX6_neediestBut n w0 z4 μ).bind fun y6 =>
    (fX6_join w0 w1 w3 y6 μ).bind fun y7 =>
    some (.inl ((io z4 (if wr y6 = (-1) then 0 else (ishl 1 y6))), (z5 + (-1)), y7))
  else
    some (.inr μ)
def bX6_buildSimple_2 (n : Nat) (w0 : Nat) (w1 : Nat) (z2 : Int) (μ : qMu) : Option ((Int × qMu) ⊕ ((qMu) ⊕ (qMu))) :=
  if wr z2 < 8 then
    (fX6_neediestBut n w0 0 μ).bind fun y2 =>
    if wr y2 = (-1) then
      some (.inr (.inr μ))
    else
      (qLd μ (w0 + 3) 8 y2).bind fun x4 =>
      (lp (fun x : Int × Int × qMu => bX6_buildSimple_40 n w0 w1 z2 y2 x.1 x.2.1 x.2.2) n ((ishl 1 y2), (mn x4 (rd μ w0 3)), μ)).bind fun y11 =>
      some (.inl ((z2 + 1), y11))
  else
    some (.inr (.inl μ))
def fX6_buildSimple (n : Nat) (q : Nat) (p0 : Nat) (μ : qMu) : Option (qMu) :=
  (lp (fun x : Int × qMu => bX6_buildSimple_2 n q p0 x.1 x.2) n (0, μ)).bind fun y12 =>
  Sum.elim (fun b13 =>
    some b13)
    (fun r14 => some r14) y12
def bX6_build_10 (n : Nat) (w0 : Nat) (w1 : Nat) (w2 : Int) (z3 : Int) (μ : qMu) : Option ((Int × qMu) ⊕ (qMu)) :=
  if wr z3 < wr (rd μ w0 3) then
    (qLd μ (w0 + 1) 8 z3).bind fun x3 =>
    (qSa μ (w0 + 3) 8 z3 x3).bind fun μ4 =>
    some (.inl ((z3 + 1), μ4))
  else
    some (.inr μ)
def fX6_build (n : Nat) (q : Nat) (p0 : Nat) (p1 : Int) (μ : qMu) : Option (qMu) :=
  (fX1_clear n p0 (rd μ q 3) μ).bind fun y1 =>
  (lp (fun x : Int × qMu => bX6_build_10 n q p0 p1 x.1 x.2) n (0, y1)).bind fun y5 =>
  if wr p1 = 0 then
    (fX6_buildWithLoops n q p0 y5).bind fun y7 =>
    some y7
  else
    if wr p1 = 1 then
      (fX6_buildWithoutLoops n q p0 y5).bind fun y9 =>
      some y9
    else
      (fX6_buildSimple n q p0 y5).bind fun y10 =>
      some y10
def bX5_readDegrees_13 (n : Nat) (z1 : Int) (μ : qMu) : Option ((Int × qMu) ⊕ ((qMu) ⊕ (Int × qMu))) :=
  if 8 < wr z1 then
    some (.inr (.inl μ))
  else
    if wr z1 = 0 then
      (fX5_expectNumber 0 32 μ).bind fun y5 =>
      if wr y5.1 = 0 then
        some (.inr (.inr (0, y5.2)))
      else
        (fX6_isFull 7 y5.2).bind fun y7 =>
        if wr y7 = 0 then
          (fX6_append n 7 (rd y5.2 1 12) y5.2).bind fun y9 =>
          (fX5_advance n y9).bind fun y10 =>
          some (.inl ((z1 + 1), y10))
        else
          (fX5_fail 5 y5.2).bind fun y11 =>
          (qbl y11.1).bind fun x12 =>
          some (.inr (.inr (x12, y11.2)))
    else
      if wr (rd μ 1 9) = 2 then
        (fX5_expectNumber 0 32 μ).bind fun y14 =>
        if wr y14.1 = 0 then
          some (.inr (.inr (0, y14.2)))
        else
          (fX6_isFull 7 y14.2).bind fun y16 =>
          if wr y16 = 0 then
            (fX6_append n 7 (rd y14.2 1 12) y14.2).bind fun y18 =>
            (fX5_advance n y18).bind fun y19 =>
            some (.inl ((z1 + 1), y19))
          else
            (fX5_fail 5 y14.2).bind fun y20 =>
            (qbl y20.1).bind fun x21 =>
            some (.inr (.inr (x21, y20.2)))
      else
        some (.inr (.inl μ))
def fX5_readDegrees (n : Nat) (μ : qMu) : Option (Int × qMu) :=
  (fX5_advance n μ).bind fun y1 =>
  (fX6_clear 7 y1).bind fun y2 =>
  (lp (fun x : Int × qMu => bX5_readDegrees_13 n x.1 x.2) n (0, y2)).bind fun y22 =>
  Sum.elim (fun b23 =>
    (fX5_expectSemicolon b23).bind fun y24 =>
    if wr y24.1 = 0 then
      some (0, y24.2)
    else
      (fX6_total 7 y24.2).bind fun y26 =>
      if wr (irm y26 2) = 0 then
        (fX6_total 7 y24.2).bind fun y28 =>
        if 32 < wr y28 then
          (fX5_fail 4 y24.2).bind fun y30 =>
          (qbl y30.1).bind fun x31 =>
          some (x31, y30.2)
        else
          (fX6_length 7 y24.2).bind fun y32 =>
          (fX5_begin n y32 y24.2).bind fun y33 =>
          (fX6_build n 7 3 0 y33).bind fun y34 =>
          some (1, y34)
      else
        (fX5_fail 4 y24.2).bind fun y35 =>
        (qbl y35.1).bind fun x36 =>
        some (x36, y35.2))
    (fun r37 => some r37) y22
def fX5_readFirst (n : Nat) (μ : qMu) : Option (Int × qMu) :=
  if wr (rd μ 1 9) = 0 then
    (fX5_begin n 1 μ).bind fun y2 =>
    some (1, y2)
  else
    (fX5_isWord n 1000000 μ).bind fun y3 =>
    if wr y3 = 0 then
      (fX5_isWord n 1000001 μ).bind fun y5 =>
      if wr y5 = 0 then
        (fX5_fail 2 μ).bind fun y7 =>
        (qbl y7.1).bind fun x8 =>
        some (x8, y7.2)
      else
        (fX5_readDegrees n μ).bind fun y9 =>
        (qbl y9.1).bind fun x10 =>
        some (x10, y9.2)
    else
      (fX5_readVertices n μ).bind fun y11 =>
      (qbl y11.1).bind fun x12 =>
      some (x12, y11.2)
def fX1_vertexCount (g : Nat) (μ : qMu) : Option (Int) :=
  some (rd μ g 1)
def fX1_edgeCount (g : Nat) (μ : qMu) : Option (Int) :=
  some (rd μ g 2)
def fX5_readEdge (n : Nat) (p0 : Nat) (μ : qMu) : Option (Int × qMu) :=
  (fX5_advance n μ).bind fun y1 =>
  (fX1_vertexCount 3 y1).bind fun y2 =>
  (fX5_expectNumber 0 (y2 - 1) y1).bind fun y3 =>
  if wr y3.1 = 0 then
    some (0, y3.2)
  else
    (fX5_advance n y3.2).bind fun y5 =>
    (fX1_vertexCount 3 y5).bind fun y6 =>
    (fX5_expectNumber 0 (y6 - 1) y5).bind fun y7 =>
    if wr y7.1 = 0 then
      some (0, y7.2)
    else
      (fX5_advance n y7.2).bind fun y9 =>
      if wr (if wr (rd y9 1 9) = 2 then 1 else 0) = 0 then
        (fX5_expectSemicolon y9).bind fun y14 =>
        if wr y14.1 = 0 then
          some (0, y14.2)
        else
          (fX1_edgeCount p0 y14.2).bind fun y19 =>
          if 16 < wr (y19 + (if wr (if wr (rd y9 1 9) = 2 then 1 else 0) = 0 then 1 else (rd y14.2 1 12))) then
            (fX5_fail 5 y14.2).bind fun y21 =>
            (qbl y21.1).bind fun x22 =>
            some (x22, y21.2)
          else
            (fX1_put p0 (rd y3.2 1 12) (rd y7.2 1 12) (if wr (if wr (rd y9 1 9) = 2 then 1 else 0) = 0 then 1 else (rd y14.2 1 12)) y14.2).bind fun y23 =>
            (if wr (if wr (rd y9 1 9) = 2 then 1 else 0) = 0 then
              some y23
            else
              (fX5_advance n y23).bind fun y26 =>
              some y26 : Option (qMu)).bind fun y25 =>
            (fX5_expectSemicolon y25).bind fun y27 =>
            (qbl y27.1).bind fun x28 =>
            some (x28, y27.2)
      else
        (fX5_expectNumber 1 9 y9).bind fun y29 =>
        if wr y29.1 = 0 then
          some (0, y29.2)
        else
          (fX1_edgeCount p0 y29.2).bind fun y34 =>
          if 16 < wr (y34 + (if wr (if wr (rd y9 1 9) = 2 then 1 else 0) = 0 then 1 else (rd y29.2 1 12))) then
            (fX5_fail 5 y29.2).bind fun y36 =>
            (qbl y36.1).bind fun x37 =>
            some (x37, y36.2)
          else
            (fX1_put p0 (rd y3.2 1 12) (rd y7.2 1 12) (if wr (if wr (rd y9 1 9) = 2 then 1 else 0) = 0 then 1 else (rd y29.2 1 12)) y29.2).bind fun y38 =>
            (if wr (if wr (rd y9 1 9) = 2 then 1 else 0) = 0 then
              some y38
            else
              (fX5_advance n y38).bind fun y41 =>
              some y41 : Option (qMu)).bind fun y40 =>
            (fX5_expectSemicolon y40).bind fun y42 =>
            (qbl y42.1).bind fun x43 =>
            some (x43, y42.2)
def fX5_readModeNumber (n : Nat) (μ : qMu) : Option (Int × qMu) :=
  (fX5_advance n μ).bind fun y1 =>
  (fX5_expectNumber 0 2 y1).bind fun y2 =>
  if wr y2.1 = 0 then
    some (0, y2.2)
  else
    (qPf y2.2 1 4 (rd y2.2 1 12)).bind fun μ4 =>
    (fX5_advance n μ4).bind fun y5 =>
    (fX5_expectSemicolon y5).bind fun y6 =>
    (qbl y6.1).bind fun x7 =>
    some (x7, y6.2)
def fX5_readOther (n : Nat) (μ : qMu) : Option (Int × qMu) :=
  (fX5_isWord n 1000002 μ).bind fun y1 =>
  if wr y1 = 0 then
    (fX5_isWord n 1000003 μ).bind fun y3 =>
    if wr y3 = 0 then
      (fX5_isWord n 1000004 μ).bind fun y5 =>
      if wr y5 = 0 then
        (fX5_fail 2 μ).bind fun y7 =>
        (qbl y7.1).bind fun x8 =>
        some (x8, y7.2)
      else
        (fX5_readModeNumber n μ).bind fun y9 =>
        (qbl y9.1).bind fun x10 =>
        some (x10, y9.2)
    else
      (fX5_readEdge n 5 μ).bind fun y11 =>
      (qbl y11.1).bind fun x12 =>
      some (x12, y11.2)
  else
    (fX5_readEdge n 3 μ).bind fun y13 =>
    (qbl y13.1).bind fun x14 =>
    some (x14, y13.2)
def bX5_readText_48 (n : Nat) (z2 : Int) (z3 : Int) (μ : qMu) : Option ((Int × Int × qMu) ⊕ (Int × qMu)) :=
  if wr z3 < 400 then
    if wr z2 = 0 then
      some (.inr (z2, μ))
    else
      if wr (rd μ 1 9) = 0 then
        some (.inr (z2, μ))
      else
        (fX5_advance n μ).bind fun y12 =>
        (if wr (rd y12 1 9) = 0 then
          some (1, y12)
        else
          (fX5_readOther n y12).bind fun y15 =>
          if wr y15.1 = 0 then
            some (0, y15.2)
          else
            some (1, y15.2) : Option (Int × qMu)).bind fun y14 =>
        some (.inl (y14.1, (z3 + 1), y14.2))
  else
    some (.inr (z2, μ))
def fX5_readText (n : Nat) (p0 : Int) (μ : qMu) : Option (Int × qMu) :=
  (qPf μ 1 6 (mn p0 (rd μ 1 5))).bind fun μ1 =>
  (qPf μ1 1 5 0).bind fun μ2 =>
  (qPf μ2 1 11 0).bind fun μ3 =>
  (qPf μ3 1 4 0).bind fun μ4 =>
  (qPf μ4 1 7 0).bind fun μ5 =>
  (qPf μ5 1 8 (-1)).bind fun μ6 =>
  (fX5_advance n μ6).bind fun y7 =>
  (fX5_readFirst n y7).bind fun y8 =>
  (lp (fun x : Int × Int × qMu => bX5_readText_48 n x.1 x.2.1 x.2.2) n (y8.1, 0, y8.2)).bind fun y17 =>
  (qbl y17.1).bind fun x18 =>
  some (x18, y17.2)
def fX5_readGraph (μ : qMu) : Option (Nat) :=
  some 3
def bX1_become_2 (n : Nat) (w0 : Nat) (w1 : Nat) (z2 : Int) (μ : qMu) : Option ((Int × qMu) ⊕ (qMu)) :=
  if wr z2 < 64 then
    (qLd μ (w1 + 1) 64 z2).bind fun x2 =>
    (qSa μ (w0 + 1) 64 z2 x2).bind fun μ3 =>
    some (.inl ((z2 + 1), μ3))
  else
    some (.inr μ)
def fX1_become (n : Nat) (g : Nat) (p0 : Nat) (μ : qMu) : Option (qMu) :=
  (lp (fun x : Int × qMu => bX1_become_2 n g p0 x.1 x.2) n (0, μ)).bind fun y4 =>
  (qPf y4 g 1 (rd y4 p0 1)).bind fun μ5 =>
  (qPf μ5 g 2 (rd μ5 p0 2)).bind fun μ6 =>
  some μ6
def fX5_readTarget (μ : qMu) : Option (Nat) :=
  some 5
def fX5_readMode (μ : qMu) : Option (Int) :=
  some (rd μ 1 4)
def fX2_forget (μ : qMu) : Option (qMu) :=
  (qPf μ 32 3 0).bind fun μ1 =>
  (qPf μ1 32 4 0).bind fun μ2 =>
  some μ2
def fX9_load (n : Nat) (p0 : Int) (μ : qMu) : Option ((Int ⊕ Nat) × qMu) :=
  if wr p0 < 0 then
    some (.inr 1, μ)
  else
    (fX5_fedBytes μ).bind fun y2 =>
    if wr y2 < wr p0 then
      some (.inr 1, μ)
    else
      (fX5_readText n p0 μ).bind fun y4 =>
      if wr y4.1 = 0 then
        some (.inl (-3), y4.2)
      else
        (fX5_readGraph y4.2).bind fun y6 =>
        (fX1_become n 11 y6 y4.2).bind fun y7 =>
        (fX5_readTarget y7).bind fun y8 =>
        (fX1_become n 13 y8 y7).bind fun y9 =>
        (fX5_readMode y9).bind fun y10 =>
        (qPf y9 0 11 y10).bind fun μ11 =>
        (fX2_forget μ11).bind fun y12 =>
        (fX1_edgeCount 11 y12).bind fun y13 =>
        some (.inl y13, y12)
def fX5_kindOfError (μ : qMu) : Option (Int) :=
  some (rd μ 1 7)
def fX9_errorKind (μ : qMu) : Option (Int) :=
  (fX5_kindOfError μ).bind fun y1 =>
  some y1
def fX5_placeOfError (μ : qMu) : Option (Int) :=
  some (rd μ 1 8)
def fX9_errorPosition (μ : qMu) : Option (Int) :=
  (fX5_placeOfError μ).bind fun y1 =>
  some y1
def fX9_vertices (μ : qMu) : Option (Int) :=
  (fX1_vertexCount 11 μ).bind fun y1 =>
  some y1
def fX9_mode (μ : qMu) : Option (Int) :=
  some (rd μ 0 11)
def fX9_choose (p0 : Int) (μ : qMu) : Option (Nat) :=
  some (if wr p0 = 0 then 11 else 13)
def fX9_edges (p0 : Int) (μ : qMu) : Option (Int) :=
  (fX9_choose p0 μ).bind fun y1 =>
  (fX1_edgeCount y1 μ).bind fun y2 =>
  some y2
def fX9_checkVertex (p0 : Int) (μ : qMu) : Option ((Int ⊕ Nat)) :=
  if wr p0 < 0 then
    some (.inr 0)
  else
    (fX1_vertexCount 11 μ).bind fun y2 =>
    if wr p0 < wr y2 then
      some (.inl 0)
    else
      some (.inr 0)
def fX1_between (g : Nat) (p0 : Int) (p1 : Int) (μ : qMu) : Option (Int) :=
  (qLd μ (g + 1) 64 ((p0 * 8) + p1)).bind fun x1 =>
  some x1
def fX9_times (p0 : Int) (p1 : Int) (p2 : Int) (μ : qMu) : Option ((Int ⊕ Nat)) :=
  (fX9_checkVertex p0 μ).bind fun y1 =>
  Sum.elim (fun v3 =>
    (fX9_checkVertex p1 μ).bind fun y5 =>
    Sum.elim (fun v7 =>
      (fX9_choose p2 μ).bind fun y9 =>
      (fX1_between y9 p0 p1 μ).bind fun y10 =>
      some (.inl y10))
      (fun E8 =>
      some (.inr E8)) y5)
    (fun E4 =>
    some (.inr E4)) y1
def bX1_degreeOf_9 (n : Nat) (w0 : Nat) (w1 : Int) (z2 : Int) (z3 : Int) (μ : qMu) : Option ((Int × Int) ⊕ (Int)) :=
  if wr z3 < wr (rd μ w0 1) then
    (fX1_between w0 w1 z3 μ).bind fun y3 =>
    some (.inl ((z2 + y3), (z3 + 1)))
  else
    some (.inr z2)
def fX1_degreeOf (n : Nat) (g : Nat) (p0 : Int) (μ : qMu) : Option (Int) :=
  (fX1_between g p0 p0 μ).bind fun y1 =>
  (lp (fun x : Int × Int => bX1_degreeOf_9 n g p0 x.1 x.2 μ) n (y1, 0)).bind fun y4 =>
  some y4
def fX9_degree (n : Nat) (p0 : Int) (p1 : Int) (μ : qMu) : Option ((Int ⊕ Nat)) :=
  (fX9_checkVertex p0 μ).bind fun y1 =>
  Sum.elim (fun v3 =>
    (fX9_choose p1 μ).bind fun y5 =>
    (fX1_degreeOf n y5 p0 μ).bind fun y6 =>
    some (.inl y6))
    (fun E4 =>
    some (.inr E4)) y1
def bX1_loopCount_4 (n : Nat) (w0 : Nat) (z1 : Int) (z2 : Int) (μ : qMu) : Option ((Int × Int) ⊕ (Int)) :=
  if wr z2 < wr (rd μ w0 1) then
    (fX1_between w0 z2 z2 μ).bind fun y2 =>
    some (.inl ((z1 + y2), (z2 + 1)))
  else
    some (.inr z1)
def fX1_loopCount (n : Nat) (g : Nat) (μ : qMu) : Option (Int) :=
  (lp (fun x : Int × Int => bX1_loopCount_4 n g x.1 x.2 μ) n (0, 0)).bind fun y3 =>
  some y3
def fX9_loops (n : Nat) (μ : qMu) : Option (Int) :=
  (fX1_loopCount n 11 μ).bind fun y1 =>
  some y1
def bX1_defectCount_19 (n : Nat) (w0 : Nat) (w2 : Int) (z1 : Int) (z3 : Int) (μ : qMu) : Option ((Int × Int) ⊕ (Int)) :=
  if wr z3 < wr (rd μ w0 1) then
    (fX1_between w0 w2 z3 μ).bind fun y4 =>
    some (.inl ((z1 + (mx 0 (y4 - 1))), (z3 + 1)))
  else
    some (.inr z1)
def bX1_defectCount_7 (n : Nat) (w0 : Nat) (z1 : Int) (z2 : Int) (μ : qMu) : Option ((Int × Int) ⊕ (Int)) :=
  if wr z2 < wr (rd μ w0 1) then
    (lp (fun x : Int × Int => bX1_defectCount_19 n w0 z2 x.1 x.2 μ) n (z1, (z2 + 1))).bind fun y5 =>
    some (.inl (y5, (z2 + 1)))
  else
    some (.inr z1)
def fX1_defectCount (n : Nat) (g : Nat) (μ : qMu) : Option (Int) :=
  (fX1_loopCount n g μ).bind fun y1 =>
  (lp (fun x : Int × Int => bX1_defectCount_7 n g x.1 x.2 μ) n (y1, 0)).bind fun y6 =>
  some y6
def fX9_defects (n : Nat) (μ : qMu) : Option (Int) :=
  (fX1_defectCount n 11 μ).bind fun y1 =>
  some y1
def fX9_isSimple (n : Nat) (μ : qMu) : Option (Int) :=
  (fX1_defectCount n 11 μ).bind fun y1 =>
  if wr y1 = 0 then
    some 1
  else
    some 0
def bX1_neighbourCount_4 (n : Nat) (w0 : Nat) (w1 : Int) (z2 : Int) (z3 : Int) (μ : qMu) : Option ((Int × Int) ⊕ (Int)) :=
  if wr z3 < wr (rd μ w0 1) then
    (if wr z3 = wr w1 then
      some z2
    else
      (fX1_between w0 w1 z3 μ).bind fun y4 =>
      if 0 < wr y4 then
        some (z2 + 1)
      else
        some z2 : Option (Int)).bind fun y3 =>
    some (.inl (y3, (z3 + 1)))
  else
    some (.inr z2)
def fX1_neighbourCount (n : Nat) (g : Nat) (p0 : Int) (μ : qMu) : Option (Int) :=
  (lp (fun x : Int × Int => bX1_neighbourCount_4 n g p0 x.1 x.2 μ) n (0, 0)).bind fun y6 =>
  some y6
def fX9_neighbours (n : Nat) (p0 : Int) (μ : qMu) : Option ((Int ⊕ Nat)) :=
  (fX9_checkVertex p0 μ).bind fun y1 =>
  Sum.elim (fun v3 =>
    (fX1_neighbourCount n 11 p0 μ).bind fun y5 =>
    some (.inl y5))
    (fun E4 =>
    some (.inr E4)) y1
def bX1_commonNeighboursBehind_7 (n : Nat) (w0 : Nat) (w1 : Int) (w2 : Int) (z3 : Int) (z4 : Int) (μ : qMu) : Option ((Int × Int) ⊕ (Int)) :=
  if wr z4 < wr (rd μ w0 1) then
    (fX1_between w0 w1 z4 μ).bind fun y2 =>
    (if 0 < wr y2 then
      (fX1_between w0 w2 z4 μ).bind fun y5 =>
      if 0 < wr y5 then
        some (z3 + 1)
      else
        some z3
    else
      some z3 : Option (Int)).bind fun y4 =>
    some (.inl (y4, (z4 + 1)))
  else
    some (.inr z3)
def fX1_commonNeighboursBehind (n : Nat) (g : Nat) (p0 : Int) (p1 : Int) (μ : qMu) : Option (Int) :=
  (lp (fun x : Int × Int => bX1_commonNeighboursBehind_7 n g p0 p1 x.1 x.2 μ) n (0, (p1 + 1))).bind fun y7 =>
  some y7
def bX1_triangleCount_16 (n : Nat) (w0 : Nat) (w2 : Int) (z1 : Int) (z3 : Int) (μ : qMu) : Option ((Int × Int) ⊕ (Int)) :=
  if wr z3 < wr (rd μ w0 1) then
    (fX1_between w0 w2 z3 μ).bind fun y3 =>
    (if 0 < wr y3 then
      (fX1_commonNeighboursBehind n w0 w2 z3 μ).bind fun y6 =>
      some (z1 + y6)
    else
      some z1 : Option (Int)).bind fun y5 =>
    some (.inl (y5, (z3 + 1)))
  else
    some (.inr z1)
def bX1_triangleCount_4 (n : Nat) (w0 : Nat) (z1 : Int) (z2 : Int) (μ : qMu) : Option ((Int × Int) ⊕ (Int)) :=
  if wr z2 < wr (rd μ w0 1) then
    (lp (fun x : Int × Int => bX1_triangleCount_16 n w0 z2 x.1 x.2 μ) n (z1, (z2 + 1))).bind fun y7 =>
    some (.inl (y7, (z2 + 1)))
  else
    some (.inr z1)
def fX1_triangleCount (n : Nat) (g : Nat) (μ : qMu) : Option (Int) :=
  (lp (fun x : Int × Int => bX1_triangleCount_4 n g x.1 x.2 μ) n (0, 0)).bind fun y8 =>
  some y8
def fX9_triangles (n : Nat) (μ : qMu) : Option (Int) :=
  (fX1_triangleCount n 11 μ).bind fun y1 =>
  some y1
def bX4_merge_16 (n : Nat) (w3 : Int) (w4 : Int) (z5 : Int) (μ : qMu) : Option ((Int × qMu) ⊕ (qMu)) :=
  if wr z5 < wr (rd μ 19 2) then
    if wr w3 = wr w4 then
      some (.inr μ)
    else
      (qLd μ 20 8 z5).bind fun x3 =>
      (if wr x3 = wr w3 then
        (qSa μ 20 8 z5 w4).bind fun μ6 =>
        some μ6
      else
        some μ : Option (qMu)).bind fun y5 =>
      some (.inl ((z5 + 1), y5))
  else
    some (.inr μ)
def fX4_merge (n : Nat) (p0 : Int) (p1 : Int) (μ : qMu) : Option (qMu) :=
  (lp (fun x : Int × qMu => bX4_merge_16 n (mx p0 p1) (mn p0 p1) x.1 x.2) n ((mx p0 p1), μ)).bind fun y7 =>
  some y7
def bX4_find_10 (n : Nat) (w1 : Nat) (z2 : Int) (μ : qMu) : Option ((Int × qMu) ⊕ (qMu)) :=
  if wr z2 < wr (rd μ 19 2) then
    (qSa μ 20 8 z2 z2).bind fun μ4 =>
    some (.inl ((z2 + 1), μ4))
  else
    some (.inr μ)
def bX4_find_45 (n : Nat) (w1 : Nat) (w2 : Int) (z3 : Int) (μ : qMu) : Option ((Int × qMu) ⊕ (qMu)) :=
  if wr z3 < wr (rd μ 19 2) then
    (fX1_between w1 w2 z3 μ).bind fun y8 =>
    (if 0 < wr y8 then
      (qLd μ 20 8 w2).bind fun x11 =>
      (qLd μ 20 8 z3).bind fun x12 =>
      (fX4_merge n x11 x12 μ).bind fun y13 =>
      some y13
    else
      some μ : Option (qMu)).bind fun y10 =>
    some (.inl ((z3 + 1), y10))
  else
    some (.inr μ)
def bX4_find_33 (n : Nat) (w1 : Nat) (z2 : Int) (μ : qMu) : Option ((Int × qMu) ⊕ (qMu)) :=
  if wr z2 < wr (rd μ 19 2) then
    (lp (fun x : Int × qMu => bX4_find_45 n w1 z2 x.1 x.2) n ((z2 + 1), μ)).bind fun y14 =>
    some (.inl ((z2 + 1), y14))
  else
    some (.inr μ)
def fX4_find (n : Nat) (p0 : Nat) (μ : qMu) : Option (qMu) :=
  (fX1_vertexCount p0 μ).bind fun y1 =>
  (qPf μ 19 2 y1).bind fun μ2 =>
  (lp (fun x : Int × qMu => bX4_find_10 n p0 x.1 x.2) n (0, μ2)).bind fun y5 =>
  (lp (fun x : Int × qMu => bX4_find_33 n p0 x.1 x.2) n (0, y5)).bind fun y15 =>
  some y15
def bX4_countBefore_4 (n : Nat) (w1 : Int) (z2 : Int) (z3 : Int) (μ : qMu) : Option ((Int × Int) ⊕ (Int)) :=
  if wr z3 < wr w1 then
    if wr z3 < wr (rd μ 19 2) then
      (qLd μ 20 8 z3).bind fun x3 =>
      some (.inl ((if wr x3 = wr z3 then (z2 + 1) else z2), (z3 + 1)))
    else
      some (.inr z2)
  else
    some (.inr z2)
def fX4_countBefore (n : Nat) (p0 : Int) (μ : qMu) : Option (Int) :=
  (lp (fun x : Int × Int => bX4_countBefore_4 n p0 x.1 x.2 μ) n (0, 0)).bind fun y7 =>
  some y7
def fX4_count (n : Nat) (μ : qMu) : Option (Int) :=
  (fX4_countBefore n (rd μ 19 2) μ).bind fun y1 =>
  some y1
def fX9_components (n : Nat) (μ : qMu) : Option (Int × qMu) :=
  (fX4_find n 11 μ).bind fun y1 =>
  (fX4_count n y1).bind fun y2 =>
  some (y2, y1)
def fX4_numberOf (n : Nat) (p0 : Int) (μ : qMu) : Option (Int) :=
  (qLd μ 20 8 p0).bind fun x1 =>
  (fX4_countBefore n x1 μ).bind fun y2 =>
  some y2
def fX9_component (n : Nat) (p0 : Int) (μ : qMu) : Option ((Int ⊕ Nat) × qMu) :=
  (fX9_checkVertex p0 μ).bind fun y1 =>
  Sum.elim (fun v3 =>
    (fX4_find n 11 μ).bind fun y5 =>
    (fX4_numberOf n p0 y5).bind fun y6 =>
    some (.inl y6, y5))
    (fun E4 =>
    some (.inr E4, μ)) y1
def bX4_countWithEdges_4 (n : Nat) (w1 : Nat) (z2 : Int) (z3 : Int) (μ : qMu) : Option ((Int × Int) ⊕ (Int)) :=
  if wr z3 < wr (rd μ 19 2) then
    (qLd μ 20 8 z3).bind fun x2 =>
    (if wr x2 = wr z3 then
      (fX1_degreeOf n w1 z3 μ).bind fun y5 =>
      if 0 < wr y5 then
        some (z2 + 1)
      else
        some z2
    else
      some z2 : Option (Int)).bind fun y4 =>
    some (.inl (y4, (z3 + 1)))
  else
    some (.inr z2)
def fX4_countWithEdges (n : Nat) (p0 : Nat) (μ : qMu) : Option (Int) :=
  (lp (fun x : Int × Int => bX4_countWithEdges_4 n p0 x.1 x.2 μ) n (0, 0)).bind fun y7 =>
  some y7
def fX9_partsWithEdges (n : Nat) (p0 : Nat) (μ : qMu) : Option (Int × qMu) :=
  (fX4_find n p0 μ).bind fun y1 =>
  (fX4_countWithEdges n p0 y1).bind fun y2 =>
  some (y2, y1)
def fX9_isConnected (n : Nat) (μ : qMu) : Option (Int × qMu) :=
  (fX9_partsWithEdges n 11 μ).bind fun y1 =>
  if 1 < wr y1.1 then
    some (0, y1.2)
  else
    some (1, y1.2)
def fX9_checkEdge (p0 : Int) (p1 : Int) (μ : qMu) : Option ((Int ⊕ Nat)) :=
  (fX1_between 11 p0 p1 μ).bind fun y1 =>
  if wr y1 = 0 then
    some (.inr 2)
  else
    some (.inl 0)
def fX4_areTogether (p0 : Int) (p1 : Int) (μ : qMu) : Option (Int) :=
  (qLd μ 20 8 p0).bind fun x1 =>
  (qLd μ 20 8 p1).bind fun x2 =>
  if wr x1 = wr x2 then
    some 1
  else
    some 0
def fX9_separates (n : Nat) (p0 : Int) (p1 : Int) (μ : qMu) : Option (Int × qMu) :=
  (fX1_become n 15 11 μ).bind fun y1 =>
  (fX1_put 15 p0 p1 (-1) y1).bind fun y2 =>
  (fX4_find n 15 y2).bind fun y3 =>
  (fX4_areTogether p0 p1 y3).bind fun y4 =>
  if wr y4 = 0 then
    some (1, y3)
  else
    some (0, y3)
def fX9_isBridge (n : Nat) (p0 : Int) (p1 : Int) (μ : qMu) : Option ((Int ⊕ Nat) × qMu) :=
  (fX9_checkVertex p0 μ).bind fun y1 =>
  Sum.elim (fun v3 =>
    (fX9_checkVertex p1 μ).bind fun y5 =>
    Sum.elim (fun v7 =>
      (fX9_checkEdge p0 p1 μ).bind fun y9 =>
      Sum.elim (fun v11 =>
        (fX9_separates n p0 p1 μ).bind fun y13 =>
        (qbl y13.1).bind fun x14 =>
        some (.inl x14, y13.2))
        (fun E12 =>
        some (.inr E12, μ)) y9)
      (fun E8 =>
      some (.inr E8, μ)) y5)
    (fun E4 =>
    some (.inr E4, μ)) y1
def bX9_bridges_19 (n : Nat) (w2 : Int) (z1 : Int) (z3 : Int) (μ : qMu) : Option ((Int × Int × qMu) ⊕ (Int × qMu)) :=
  (fX1_vertexCount 11 μ).bind fun y3 =>
  if wr z3 < wr y3 then
    (fX1_between 11 w2 z3 μ).bind fun y5 =>
    (if wr y5 = 1 then
      (fX9_separates n w2 z3 μ).bind fun y8 =>
      if wr y8.1 = 0 then
        some (z1, y8.2)
      else
        some ((z1 + 1), y8.2)
    else
      some (z1, μ) : Option (Int × qMu)).bind fun y7 =>
    some (.inl (y7.1, (z3 + 1), y7.2))
  else
    some (.inr (z1, μ))
def bX9_bridges_4 (n : Nat) (z1 : Int) (z2 : Int) (μ : qMu) : Option ((Int × Int × qMu) ⊕ (Int × qMu)) :=
  (fX1_vertexCount 11 μ).bind fun y1 =>
  if wr z2 < wr y1 then
    (lp (fun x : Int × Int × qMu => bX9_bridges_19 n z2 x.1 x.2.1 x.2.2) n (z1, (z2 + 1), μ)).bind fun y10 =>
    some (.inl (y10.1, (z2 + 1), y10.2))
  else
    some (.inr (z1, μ))
def fX9_bridges (n : Nat) (μ : qMu) : Option (Int × qMu) :=
  (lp (fun x : Int × Int × qMu => bX9_bridges_4 n x.1 x.2.1 x.2.2) n (0, 0, μ)).bind fun y11 =>
  some (y11.1, y11.2)
def bX4_stepOn_2 (n : Nat) (w1 : Nat) (w2 : Int) (z3 : Int) (μ : qMu) : Option ((Int × qMu) ⊕ (qMu)) :=
  if wr z3 < wr (rd μ 19 2) then
    (qLd μ 21 8 z3).bind fun x2 =>
    (if wr x2 = (-1) then
      (fX1_between w1 w2 z3 μ).bind fun y5 =>
      if 0 < wr y5 then
        (qLd μ 21 8 w2).bind fun x7 =>
        (qSa μ 21 8 z3 (x7 + 1)).bind fun μ8 =>
        some μ8
      else
        some μ
    else
      some μ : Option (qMu)).bind fun y4 =>
    some (.inl ((z3 + 1), y4))
  else
    some (.inr μ)
def fX4_stepOn (n : Nat) (p0 : Nat) (p1 : Int) (μ : qMu) : Option (qMu) :=
  (lp (fun x : Int × qMu => bX4_stepOn_2 n p0 p1 x.1 x.2) n (0, μ)).bind fun y9 =>
  some y9
def bX4_stepsBetween_11 (n : Nat) (w1 : Nat) (w2 : Int) (w3 : Int) (z4 : Int) (μ : qMu) : Option ((Int × qMu) ⊕ (qMu)) :=
  if wr z4 < wr (rd μ 19 2) then
    (qSa μ 21 8 z4 (-1)).bind fun μ4 =>
    some (.inl ((z4 + 1), μ4))
  else
    some (.inr μ)
def bX4_stepsBetween_66 (n : Nat) (w1 : Nat) (w3 : Int) (w4 : Int) (z5 : Int) (μ : qMu) : Option ((Int × qMu) ⊕ (qMu)) :=
  if wr z5 < wr (rd μ 19 2) then
    (qLd μ 21 8 z5).bind fun x11 =>
    (if wr x11 = wr w4 then
      (fX4_stepOn n w1 z5 μ).bind fun y14 =>
      some y14
    else
      some μ : Option (qMu)).bind fun y13 =>
    some (.inl ((z5 + 1), y13))
  else
    some (.inr μ)
def bX4_stepsBetween_44 (n : Nat) (w1 : Nat) (w3 : Int) (z4 : Int) (μ : qMu) : Option ((Int × qMu) ⊕ (qMu)) :=
  if wr z4 < wr (rd μ 19 2) then
    (qLd μ 21 8 w3).bind fun x8 =>
    if wr x8 = (-1) then
      (lp (fun x : Int × qMu => bX4_stepsBetween_66 n w1 w3 z4 x.1 x.2) n (0, μ)).bind fun y15 =>
      some (.inl ((z4 + 1), y15))
    else
      some (.inr μ)
  else
    some (.inr μ)
def fX4_stepsBetween (n : Nat) (p0 : Nat) (p1 : Int) (p2 : Int) (μ : qMu) : Option (Int × qMu) :=
  (fX1_vertexCount p0 μ).bind fun y1 =>
  (qPf μ 19 2 y1).bind fun μ2 =>
  (lp (fun x : Int × qMu => bX4_stepsBetween_11 n p0 p1 p2 x.1 x.2) n (0, μ2)).bind fun y5 =>
  (qSa y5 21 8 p1 0).bind fun μ6 =>
  (lp (fun x : Int × qMu => bX4_stepsBetween_44 n p0 p2 x.1 x.2) n (0, μ6)).bind fun y16 =>
  (qLd y16 21 8 p2).bind fun x17 =>
  some (x17, y16)
def fX9_way (n : Nat) (p0 : Int) (p1 : Int) (μ : qMu) : Option ((Int ⊕ Nat) × qMu) :=
  (fX9_checkVertex p0 μ).bind fun y1 =>
  Sum.elim (fun v3 =>
    (fX9_checkVertex p1 μ).bind fun y5 =>
    Sum.elim (fun v7 =>
      (fX4_stepsBetween n 11 p0 p1 μ).bind fun y9 =>
      some (.inl y9.1, y9.2))
      (fun E8 =>
      some (.inr E8, μ)) y5)
    (fun E4 =>
    some (.inr E4, μ)) y1
def bX6_take_6 (n : Nat) (w0 : Nat) (w1 : Nat) (z2 : Int) (μ : qMu) : Option ((Int × qMu) ⊕ (qMu)) :=
  (fX1_vertexCount w1 μ).bind fun y2 =>
  if wr z2 < wr y2 then
    (fX1_degreeOf n w1 z2 μ).bind fun y4 =>
    (fX6_append n w0 y4 μ).bind fun y5 =>
    some (.inl ((z2 + 1), y5))
  else
    some (.inr μ)
def fX6_take (n : Nat) (q : Nat) (p0 : Nat) (μ : qMu) : Option (qMu) :=
  (fX6_clear q μ).bind fun y1 =>
  (lp (fun x : Int × qMu => bX6_take_6 n q p0 x.1 x.2) n (0, y1)).bind fun y6 =>
  some y6
def fX6_greatest (q : Nat) (p0 : Int) (μ : qMu) : Option (Int) :=
  (qLd μ (q + 2) 8 p0).bind fun x1 =>
  some x1
def fX9_sorted (n : Nat) (p0 : Int) (μ : qMu) : Option ((Int ⊕ Nat) × qMu) :=
  (fX9_checkVertex p0 μ).bind fun y1 =>
  Sum.elim (fun v3 =>
    (fX6_take n 22 11 μ).bind fun y5 =>
    (fX6_greatest 22 p0 y5).bind fun y6 =>
    some (.inl y6, y5))
    (fun E4 =>
    some (.inr E4, μ)) y1
def bX6_slackOf_8 (n : Nat) (w0 : Nat) (w1 : Int) (z2 : Int) (z3 : Int) (μ : qMu) : Option ((Int × Int) ⊕ (Int)) :=
  if wr z3 < wr (rd μ w0 3) then
    (if wr z3 < wr w1 then
      (qLd μ (w0 + 2) 8 z3).bind fun x4 =>
      some (-x4)
    else
      (qLd μ (w0 + 2) 8 z3).bind fun x5 =>
      some (mn w1 x5) : Option (Int)).bind fun y3 =>
    some (.inl ((z2 + y3), (z3 + 1)))
  else
    some (.inr z2)
def fX6_slackOf (n : Nat) (q : Nat) (p0 : Int) (μ : qMu) : Option (Int) :=
  (lp (fun x : Int × Int => bX6_slackOf_8 n q p0 x.1 x.2 μ) n ((p0 * (p0 - 1)), 0)).bind fun y6 =>
  some y6
def fX9_slack (n : Nat) (p0 : Int) (μ : qMu) : Option ((Int ⊕ Nat) × qMu) :=
  if wr p0 < 1 then
    some (.inr 0, μ)
  else
    (fX1_vertexCount 11 μ).bind fun y2 =>
    if wr y2 < wr p0 then
      some (.inr 0, μ)
    else
      (fX6_take n 22 11 μ).bind fun y4 =>
      (fX6_slackOf n 22 p0 y4).bind fun y5 =>
      some (.inl y5, y4)
def fX9_checkMode (p0 : Int) (μ : qMu) : Option ((Int ⊕ Nat)) :=
  if wr p0 < 0 then
    some (.inr 1)
  else
    if 2 < wr p0 then
      some (.inr 1)
    else
      some (.inl 0)
def bX6_hasNoNegativeSlack_2 (n : Nat) (w0 : Nat) (z1 : Int) (μ : qMu) : Option ((Int) ⊕ ((Unit) ⊕ (Int))) :=
  if wr (rd μ w0 3) < wr z1 then
    some (.inr (.inl ()))
  else
    (fX6_slackOf n w0 z1 μ).bind fun y2 =>
    if wr y2 < 0 then
      some (.inr (.inr 0))
    else
      some (.inl (z1 + 1))
def fX6_hasNoNegativeSlack (n : Nat) (q : Nat) (μ : qMu) : Option (Int) :=
  (lp (fun x : Int => bX6_hasNoNegativeSlack_2 n q x μ) n 1).bind fun y4 =>
  Sum.elim (fun b5 =>
    some 1)
    (fun r6 => some r6) y4
def fX6_allows (n : Nat) (q : Nat) (p0 : Int) (μ : qMu) : Option (Int) :=
  if wr (irm (rd μ q 4) 2) = 0 then
    if wr p0 = 1 then
      if wr (rd μ q 3) = 0 then
        some 1
      else
        (qLd μ (q + 2) 8 0).bind fun x4 =>
        (qLd μ (q + 2) 8 0).bind fun x5 =>
        if wr ((rd μ q 4) - x5) < wr x4 then
          some 0
        else
          some 1
    else
      if wr p0 = 2 then
        (fX6_hasNoNegativeSlack n q μ).bind fun y8 =>
        if wr y8 = 0 then
          some 0
        else
          some 1
      else
        some 1
  else
    some 0
def fX9_isPossible (n : Nat) (p0 : Int) (μ : qMu) : Option ((Int ⊕ Nat) × qMu) :=
  (fX9_checkMode p0 μ).bind fun y1 =>
  Sum.elim (fun v3 =>
    (fX6_take n 22 11 μ).bind fun y5 =>
    (fX6_allows n 22 p0 y5).bind fun y6 =>
    (qbl y6).bind fun x7 =>
    some (.inl x7, y5))
    (fun E4 =>
    some (.inr E4, μ)) y1
def fX9_meanDegree (μ : qMu) : Option (UInt64) :=
  (fX1_vertexCount 11 μ).bind fun y1 =>
  (if 0 < wr y1 then
    (fX1_edgeCount 11 μ).bind fun y4 =>
    (ddv (i2d (2 * y4)) (i2d y1)).bind fun x5 =>
    some x5
  else
    some FP.dconst0 : Option (UInt64)).bind fun y3 =>
  some y3
def fX9_checkVertices (p0 : Int) (p1 : Int) (p2 : Int) (p3 : Int) (μ : qMu) : Option ((Int ⊕ Nat)) :=
  (fX9_checkVertex p0 μ).bind fun y1 =>
  Sum.elim (fun v3 =>
    (fX9_checkVertex p1 μ).bind fun y5 =>
    Sum.elim (fun v7 =>
      (fX9_checkVertex p2 μ).bind fun y9 =>
      Sum.elim (fun v11 =>
        (fX9_checkVertex p3 μ).bind fun y13 =>
        Sum.elim (fun v15 =>
          some (.inl 0))
          (fun E16 =>
          some (.inr E16)) y13)
        (fun E12 =>
        some (.inr E12)) y9)
      (fun E8 =>
      some (.inr E8)) y5)
    (fun E4 =>
    some (.inr E4)) y1
def fX1_reasonAgainst (g : Nat) (p0 : Int) (p1 : Int) (p2 : Int) (p3 : Int) (p4 : Int) (μ : qMu) : Option (Int) :=
  (fX1_between g p1 p2 μ).bind fun y1 =>
  if wr y1 = 0 then
    some 1
  else
    (fX1_between g p3 p4 μ).bind fun y6 =>
    if wr y6 < wr (if wr (if wr p1 = wr p3 then if wr p2 = wr p4 then 1 else if wr p1 = wr p4 then if wr p2 = wr p3 then 1 else 0 else 0 else if wr p1 = wr p4 then if wr p2 = wr p3 then 1 else 0 else 0) = 0 then 1 else 2) then
      some 2
    else
      if wr p1 = wr p4 then
        some 3
      else
        if wr p2 = wr p3 then
          some 3
        else
          if wr p0 = 0 then
            (fX1_between g p1 p3 μ).bind fun y14 =>
            (if 0 < wr y14 then
              some 1
            else
              (fX1_between g p2 p4 μ).bind fun y17 =>
              if 0 < wr y17 then
                some 1
              else
                some 0 : Option (Int)).bind fun y16 =>
            if wr p0 = 2 then
              if wr y16 = 0 then
                if wr (if wr p1 = wr p2 then if wr p3 = wr p4 then 1 else 0 else 0) = 0 then
                  some 0
                else
                  some 5
              else
                some 5
            else
              some 0
          else
            if wr p1 = wr p3 then
              some 4
            else
              if wr p2 = wr p4 then
                some 4
              else
                (fX1_between g p1 p3 μ).bind fun y28 =>
                (if 0 < wr y28 then
                  some 1
                else
                  (fX1_between g p2 p4 μ).bind fun y31 =>
                  if 0 < wr y31 then
                    some 1
                  else
                    some 0 : Option (Int)).bind fun y30 =>
                if wr p0 = 2 then
                  if wr y30 = 0 then
                    if wr (if wr p1 = wr p2 then if wr p3 = wr p4 then 1 else 0 else 0) = 0 then
                      some 0
                    else
                      some 5
                  else
                    some 5
                else
                  some 0
def fX9_reason (p0 : Int) (p1 : Int) (p2 : Int) (p3 : Int) (μ : qMu) : Option ((Int ⊕ Nat)) :=
  (fX9_checkVertices p0 p1 p2 p3 μ).bind fun y1 =>
  Sum.elim (fun v3 =>
    (fX1_reasonAgainst 11 (rd μ 0 11) p0 p1 p2 p3 μ).bind fun y5 =>
    some (.inl y5))
    (fun E4 =>
    some (.inr E4)) y1
def fX0_of (p0 : Int) (p1 : Int) (p2 : Int) (p3 : Int) (μ : qMu) : Option (Int) :=
  some (io (ishl (io (ishl (io (ishl p0 3) p1) 3) p2) 3) p3)
def fX0_isFirstOfFour (p0 : Int) (p1 : Int) (p2 : Int) (p3 : Int) (μ : qMu) : Option (Int) :=
  (fX0_of p0 p1 p2 p3 μ).bind fun y1 =>
  (fX0_of p1 p0 p3 p2 μ).bind fun y2 =>
  if wr y2 < wr y1 then
    some 0
  else
    (fX0_of p2 p3 p0 p1 μ).bind fun y4 =>
    if wr y4 < wr y1 then
      some 0
    else
      (fX0_of p3 p2 p1 p0 μ).bind fun y6 =>
      if wr y6 < wr y1 then
        some 0
      else
        some 1
def fX7_append (p0 : Int) (μ : qMu) : Option (qMu) :=
  if wr (rd μ 26 1) < 1024 then
    (qSa μ 27 1024 (rd μ 26 1) p0).bind fun μ2 =>
    (qPf μ2 26 1 ((rd μ2 26 1) + 1)).bind fun μ3 =>
    some μ3
  else
    some μ
def bX7_fillFrom_15 (n : Nat) (w1 : Nat) (w2 : Int) (w3 : Int) (w4 : Int) (w5 : Int) (z6 : Int) (μ : qMu) : Option ((Int × qMu) ⊕ (qMu)) :=
  (fX1_vertexCount w1 μ).bind fun y3 =>
  if wr z6 < wr y3 then
    (fX1_between w1 w5 z6 μ).bind fun y5 =>
    (if 0 < wr y5 then
      (fX0_isFirstOfFour w3 w4 w5 z6 μ).bind fun y8 =>
      if wr y8 = 0 then
        some μ
      else
        (fX1_reasonAgainst w1 w2 w3 w4 w5 z6 μ).bind fun y10 =>
        if wr y10 = 0 then
          (fX0_of w3 w4 w5 z6 μ).bind fun y12 =>
          (fX7_append y12 μ).bind fun y13 =>
          some y13
        else
          some μ
    else
      some μ : Option (qMu)).bind fun y7 =>
    some (.inl ((z6 + 1), y7))
  else
    some (.inr μ)
def bX7_fillFrom_3 (n : Nat) (w1 : Nat) (w2 : Int) (w3 : Int) (w4 : Int) (z5 : Int) (μ : qMu) : Option ((Int × qMu) ⊕ (qMu)) :=
  (fX1_vertexCount w1 μ).bind fun y1 =>
  if wr z5 < wr y1 then
    (lp (fun x : Int × qMu => bX7_fillFrom_15 n w1 w2 w3 w4 z5 x.1 x.2) n (0, μ)).bind fun y14 =>
    some (.inl ((z5 + 1), y14))
  else
    some (.inr μ)
def fX7_fillFrom (n : Nat) (p0 : Nat) (p1 : Int) (p2 : Int) (p3 : Int) (μ : qMu) : Option (qMu) :=
  (lp (fun x : Int × qMu => bX7_fillFrom_3 n p0 p1 p2 p3 x.1 x.2) n (p2, μ)).bind fun y15 =>
  some y15
def bX7_fill_18 (n : Nat) (w1 : Nat) (w2 : Int) (w3 : Int) (z4 : Int) (μ : qMu) : Option ((Int × qMu) ⊕ (qMu)) :=
  (fX1_vertexCount w1 μ).bind fun y4 =>
  if wr z4 < wr y4 then
    (fX1_between w1 w3 z4 μ).bind fun y6 =>
    (if 0 < wr y6 then
      (fX7_fillFrom n w1 w2 w3 z4 μ).bind fun y9 =>
      some y9
    else
      some μ : Option (qMu)).bind fun y8 =>
    some (.inl ((z4 + 1), y8))
  else
    some (.inr μ)
def bX7_fill_7 (n : Nat) (w1 : Nat) (w2 : Int) (z3 : Int) (μ : qMu) : Option ((Int × qMu) ⊕ (qMu)) :=
  (fX1_vertexCount w1 μ).bind fun y2 =>
  if wr z3 < wr y2 then
    (lp (fun x : Int × qMu => bX7_fill_18 n w1 w2 z3 x.1 x.2) n (0, μ)).bind fun y10 =>
    some (.inl ((z3 + 1), y10))
  else
    some (.inr μ)
def fX7_fill (n : Nat) (p0 : Nat) (p1 : Int) (μ : qMu) : Option (qMu) :=
  (qPf μ 26 1 0).bind fun μ1 =>
  (lp (fun x : Int × qMu => bX7_fill_7 n p0 p1 x.1 x.2) n (0, μ1)).bind fun y11 =>
  some y11
def fX7_length (μ : qMu) : Option (Int) :=
  some (rd μ 26 1)
def fX9_switches (n : Nat) (μ : qMu) : Option (Int × qMu) :=
  (fX7_fill n 11 (rd μ 0 11) μ).bind fun y1 =>
  (fX7_length y1).bind fun y2 =>
  some (y2, y1)
def fX9_checkWhat (p0 : Int) (μ : qMu) : Option ((Int ⊕ Nat)) :=
  if wr p0 < 0 then
    some (.inr 1)
  else
    if 3 < wr p0 then
      some (.inr 1)
    else
      some (.inl 0)
def fX7_codeAt (p0 : Int) (μ : qMu) : Option (Int) :=
  (qLd μ 27 1024 p0).bind fun x1 =>
  some x1
def fX0_vertexOf (p0 : Int) (p1 : Int) (μ : qMu) : Option (Int) :=
  some (ian (ishr p0 ((3 - p1) * 3)) 7)
def fX9_switchAt (n : Nat) (p0 : Int) (p1 : Int) (μ : qMu) : Option ((Int ⊕ Nat) × qMu) :=
  (fX7_fill n 11 (rd μ 0 11) μ).bind fun y1 =>
  if wr p0 < 0 then
    some (.inr 0, y1)
  else
    (fX7_length y1).bind fun y3 =>
    if wr p0 < wr y3 then
      (fX9_checkWhat p1 y1).bind fun y5 =>
      Sum.elim (fun v7 =>
        (fX7_codeAt p0 y1).bind fun y9 =>
        (fX0_vertexOf y9 p1 y1).bind fun y10 =>
        some (.inl y10, y1))
        (fun E8 =>
        some (.inr E8, y1)) y5
    else
      some (.inr 0, y1)
def fX9_checkPossible (p0 : Int) (p1 : Int) (p2 : Int) (p3 : Int) (μ : qMu) : Option ((Int ⊕ Nat)) :=
  (fX1_reasonAgainst 11 (rd μ 0 11) p0 p1 p2 p3 μ).bind fun y1 =>
  if wr y1 = 0 then
    some (.inl 0)
  else
    some (.inr 3)
def fX1_exchangeEdges (g : Nat) (p0 : Int) (μ : qMu) : Option (qMu) :=
  (fX0_vertexOf p0 0 μ).bind fun y1 =>
  (fX0_vertexOf p0 1 μ).bind fun y2 =>
  (fX0_vertexOf p0 2 μ).bind fun y3 =>
  (fX0_vertexOf p0 3 μ).bind fun y4 =>
  (fX1_put g y1 y2 (-1) μ).bind fun y5 =>
  (fX1_put g y3 y4 (-1) y5).bind fun y6 =>
  (fX1_put g y1 y3 1 y6).bind fun y7 =>
  (fX1_put g y2 y4 1 y7).bind fun y8 =>
  some y8
def fX9_componentsBehind (n : Nat) (p0 : Int) (p1 : Int) (p2 : Int) (p3 : Int) (μ : qMu) : Option ((Int ⊕ Nat) × qMu) :=
  (fX9_checkVertices p0 p1 p2 p3 μ).bind fun y1 =>
  Sum.elim (fun v3 =>
    (fX9_checkPossible p0 p1 p2 p3 μ).bind fun y5 =>
    Sum.elim (fun v7 =>
      (fX1_become n 15 11 μ).bind fun y9 =>
      (fX0_of p0 p1 p2 p3 y9).bind fun y10 =>
      (fX1_exchangeEdges 15 y10 y9).bind fun y11 =>
      (fX4_find n 15 y11).bind fun y12 =>
      (fX4_count n y12).bind fun y13 =>
      some (.inl y13, y12))
      (fun E8 =>
      some (.inr E8, μ)) y5)
    (fun E4 =>
    some (.inr E4, μ)) y1
def bX1_surplusOver_15 (n : Nat) (w0 : Nat) (w1 : Nat) (w3 : Int) (z2 : Int) (z4 : Int) (μ : qMu) : Option ((Int × Int) ⊕ (Int)) :=
  if wr z4 < wr (rd μ w0 1) then
    (fX1_between w0 w3 z4 μ).bind fun y3 =>
    (fX1_between w1 w3 z4 μ).bind fun y4 =>
    some (.inl ((z2 + (mx 0 (y3 - y4))), (z4 + 1)))
  else
    some (.inr z2)
def bX1_surplusOver_4 (n : Nat) (w0 : Nat) (w1 : Nat) (z2 : Int) (z3 : Int) (μ : qMu) : Option ((Int × Int) ⊕ (Int)) :=
  if wr z3 < wr (rd μ w0 1) then
    (lp (fun x : Int × Int => bX1_surplusOver_15 n w0 w1 z3 x.1 x.2 μ) n (z2, z3)).bind fun y5 =>
    some (.inl (y5, (z3 + 1)))
  else
    some (.inr z2)
def fX1_surplusOver (n : Nat) (g : Nat) (p0 : Nat) (μ : qMu) : Option (Int) :=
  (lp (fun x : Int × Int => bX1_surplusOver_4 n g p0 x.1 x.2 μ) n (0, 0)).bind fun y6 =>
  some y6
def fX0_backOf (p0 : Int) (μ : qMu) : Option (Int) :=
  (fX0_vertexOf p0 0 μ).bind fun y1 =>
  (fX0_vertexOf p0 2 μ).bind fun y2 =>
  (fX0_vertexOf p0 1 μ).bind fun y3 =>
  (fX0_vertexOf p0 3 μ).bind fun y4 =>
  (fX0_of y1 y2 y3 y4 μ).bind fun y5 =>
  some y5
def bX9_nearest_53 (n : Nat) (z1 : Int) (z2 : Int) (z3 : Int) (μ : qMu) : Option ((Int × Int × Int × qMu) ⊕ (Int × qMu)) :=
  (fX7_length μ).bind fun y5 =>
  if wr z3 < wr y5 then
    (fX7_codeAt z3 μ).bind fun y7 =>
    (fX1_exchangeEdges 15 y7 μ).bind fun y8 =>
    (fX1_surplusOver n 15 13 y8).bind fun y9 =>
    (fX7_codeAt z3 y8).bind fun y10 =>
    (fX0_backOf y10 y8).bind fun y11 =>
    (fX1_exchangeEdges 15 y11 y8).bind fun y12 =>
    some (.inl ((if wr y9 < wr z2 then z3 else z1), (if wr y9 < wr z2 then y9 else z2), (z3 + 1), y12))
  else
    some (.inr (z1, μ))
def fX9_nearest (n : Nat) (μ : qMu) : Option ((Int ⊕ Nat) × qMu) :=
  (fX7_fill n 11 (rd μ 0 11) μ).bind fun y1 =>
  (fX7_length y1).bind fun y2 =>
  if wr y2 = 0 then
    some (.inr 2, y1)
  else
    (fX1_become n 15 11 y1).bind fun y4 =>
    (lp (fun x : Int × Int × Int × qMu => bX9_nearest_53 n x.1 x.2.1 x.2.2.1 x.2.2.2) n (0, 17, 0, y4)).bind fun y17 =>
    some (.inl y17.1, y17.2)
def bX1_hasDegreesOf_2 (n : Nat) (w0 : Nat) (w1 : Nat) (z2 : Int) (μ : qMu) : Option ((Int) ⊕ ((Unit) ⊕ (Int))) :=
  if wr z2 < wr (rd μ w0 1) then
    (fX1_degreeOf n w0 z2 μ).bind fun y2 =>
    (fX1_degreeOf n w1 z2 μ).bind fun y3 =>
    if wr y2 = wr y3 then
      some (.inl (z2 + 1))
    else
      some (.inr (.inr 0))
  else
    some (.inr (.inl ()))
def fX1_hasDegreesOf (n : Nat) (g : Nat) (p0 : Nat) (μ : qMu) : Option (Int) :=
  (lp (fun x : Int => bX1_hasDegreesOf_2 n g p0 x μ) n 0).bind fun y5 =>
  Sum.elim (fun b6 =>
    some 1)
    (fun r7 => some r7) y5
def fX9_isAlike (n : Nat) (μ : qMu) : Option (Int) :=
  (fX1_hasDegreesOf n 11 13 μ).bind fun y1 =>
  (qbl y1).bind fun x2 =>
  some x2
def fX9_difference (n : Nat) (μ : qMu) : Option (Int) :=
  (fX1_surplusOver n 11 13 μ).bind fun y1 =>
  some y1
def fX9_checkAlike (n : Nat) (μ : qMu) : Option ((Int ⊕ Nat)) :=
  (fX1_hasDegreesOf n 11 13 μ).bind fun y1 =>
  if wr y1 = 0 then
    some (.inr 3)
  else
    some (.inl 0)
def bX8_endOfSurplus_3 (n : Nat) (w1 : Nat) (w2 : Int) (w3 : Int) (z4 : Int) (μ : qMu) : Option ((Int) ⊕ ((Unit) ⊕ (Int))) :=
  (fX1_vertexCount 30 μ).bind fun y1 =>
  if wr z4 < wr y1 then
    (fX1_between 30 w2 z4 μ).bind fun y3 =>
    (fX1_between w1 w2 z4 μ).bind fun y4 =>
    if wr (if wr z4 = wr w3 then 1 else 0) < wr (y3 - y4) then
      some (.inr (.inr z4))
    else
      some (.inl (z4 + 1))
  else
    some (.inr (.inl ()))
def fX8_endOfSurplus (n : Nat) (p0 : Nat) (p1 : Int) (p2 : Int) (μ : qMu) : Option (Int) :=
  (lp (fun x : Int => bX8_endOfSurplus_3 n p0 p1 p2 x μ) n 0).bind fun y9 =>
  Sum.elim (fun b10 =>
    some (-1))
    (fun r11 => some r11) y9
def fX8_codeThatJoins (n : Nat) (p0 : Nat) (p1 : Int) (p2 : Int) (μ : qMu) : Option (Int) :=
  (fX8_endOfSurplus n p0 p1 (-1) μ).bind fun y1 =>
  (fX8_endOfSurplus n p0 p2 (if wr p1 = wr p2 then y1 else (-1)) μ).bind fun y5 =>
  if wr y1 = (-1) then
    some (-1)
  else
    if wr y5 = (-1) then
      some (-1)
    else
      (fX0_of p1 y1 p2 y5 μ).bind fun y8 =>
      some y8
def bX8_nextTowards_15 (n : Nat) (w1 : Nat) (w2 : Int) (z3 : Int) (μ : qMu) : Option ((Int) ⊕ ((Unit) ⊕ (Int))) :=
  (fX1_vertexCount 30 μ).bind fun y3 =>
  if wr z3 < wr y3 then
    (fX1_between w1 w2 z3 μ).bind fun y5 =>
    (fX1_between 30 w2 z3 μ).bind fun y6 =>
    if wr y6 < wr y5 then
      (fX8_codeThatJoins n w1 w2 z3 μ).bind fun y8 =>
      some (.inr (.inr y8))
    else
      some (.inl (z3 + 1))
  else
    some (.inr (.inl ()))
def bX8_nextTowards_2 (n : Nat) (w1 : Nat) (z2 : Int) (μ : qMu) : Option ((Int) ⊕ ((Unit) ⊕ (Int))) :=
  (fX1_vertexCount 30 μ).bind fun y1 =>
  if wr z2 < wr y1 then
    (lp (fun x : Int => bX8_nextTowards_15 n w1 z2 x μ) n z2).bind fun y9 =>
    Sum.elim (fun b10 =>
      some (.inl (z2 + 1)))
      (fun r11 => some (.inr (.inr r11))) y9
  else
    some (.inr (.inl ()))
def fX8_nextTowards (n : Nat) (p0 : Nat) (μ : qMu) : Option (Int) :=
  (lp (fun x : Int => bX8_nextTowards_2 n p0 x μ) n 0).bind fun y12 =>
  Sum.elim (fun b13 =>
    some (-1))
    (fun r14 => some r14) y12
def bX8_find_15 (n : Nat) (w2 : Nat) (z3 : Int) (μ : qMu) : Option ((Int × qMu) ⊕ ((qMu) ⊕ (qMu))) :=
  if wr z3 < 16 then
    (fX8_nextTowards n w2 μ).bind fun y4 =>
    if wr y4 = (-1) then
      some (.inr (.inr μ))
    else
      (fX1_exchangeEdges 30 y4 μ).bind fun y6 =>
      (qSa y6 29 16 z3 y4).bind fun μ7 =>
      (qPf μ7 28 2 ((rd μ7 28 2) + 1)).bind fun μ8 =>
      some (.inl ((z3 + 1), μ8))
  else
    some (.inr (.inl μ))
def fX8_find (n : Nat) (p0 : Nat) (p1 : Nat) (μ : qMu) : Option (qMu) :=
  (fX1_become n 30 p0 μ).bind fun y1 =>
  (qPf y1 28 2 0).bind fun μ2 =>
  (lp (fun x : Int × qMu => bX8_find_15 n p1 x.1 x.2) n (0, μ2)).bind fun y9 =>
  Sum.elim (fun b10 =>
    some b10)
    (fun r11 => some r11) y9
def fX8_length (μ : qMu) : Option (Int) :=
  some (rd μ 28 2)
def fX9_pathLength (n : Nat) (μ : qMu) : Option ((Int ⊕ Nat) × qMu) :=
  (fX9_checkAlike n μ).bind fun y1 =>
  Sum.elim (fun v3 =>
    (fX8_find n 11 13 μ).bind fun y5 =>
    (fX8_length y5).bind fun y6 =>
    some (.inl y6, y5))
    (fun E4 =>
    some (.inr E4, μ)) y1
def fX8_codeAt (p0 : Int) (μ : qMu) : Option (Int) :=
  (qLd μ 29 16 p0).bind fun x1 =>
  some x1
def fX9_path (n : Nat) (p0 : Int) (p1 : Int) (μ : qMu) : Option ((Int ⊕ Nat) × qMu) :=
  (fX9_checkAlike n μ).bind fun y1 =>
  Sum.elim (fun v3 =>
    (fX8_find n 11 13 μ).bind fun y5 =>
    if wr p0 < 0 then
      some (.inr 0, y5)
    else
      (fX8_length y5).bind fun y7 =>
      if wr p0 < wr y7 then
        (fX9_checkWhat p1 y5).bind fun y9 =>
        Sum.elim (fun v11 =>
          (fX8_codeAt p0 y5).bind fun y13 =>
          (fX0_vertexOf y13 p1 y5).bind fun y14 =>
          some (.inl y14, y5))
          (fun E12 =>
          some (.inr E12, y5)) y9
      else
        some (.inr 0, y5))
    (fun E4 =>
    some (.inr E4, μ)) y1
def bX9_oneSwitchLeadsBeside_25 (n : Nat) (z1 : Int) (μ : qMu) : Option ((Int × qMu) ⊕ ((qMu) ⊕ (Int × qMu))) :=
  (fX7_length μ).bind fun y3 =>
  if wr z1 < wr y3 then
    (fX7_codeAt z1 μ).bind fun y5 =>
    (fX1_exchangeEdges 15 y5 μ).bind fun y6 =>
    (fX1_surplusOver n 15 13 y6).bind fun y7 =>
    (fX7_codeAt z1 y6).bind fun y8 =>
    (fX0_backOf y8 y6).bind fun y9 =>
    (fX1_exchangeEdges 15 y9 y6).bind fun y10 =>
    if wr y7 = 2 then
      some (.inr (.inr (1, y10)))
    else
      some (.inl ((z1 + 1), y10))
  else
    some (.inr (.inl μ))
def fX9_oneSwitchLeadsBeside (n : Nat) (μ : qMu) : Option (Int × qMu) :=
  (fX7_fill n 11 0 μ).bind fun y1 =>
  (fX1_become n 15 11 y1).bind fun y2 =>
  (lp (fun x : Int × qMu => bX9_oneSwitchLeadsBeside_25 n x.1 x.2) n (0, y2)).bind fun y12 =>
  Sum.elim (fun b13 =>
    some (0, b13))
    (fun r14 => some r14) y12
def fX9_distance (n : Nat) (μ : qMu) : Option ((Int ⊕ Nat) × qMu) :=
  (fX9_checkAlike n μ).bind fun y1 =>
  Sum.elim (fun v3 =>
    (fX1_surplusOver n 11 13 μ).bind fun y5 =>
    if wr y5 = 0 then
      some (.inl 0, μ)
    else
      if wr y5 = 2 then
        some (.inl 1, μ)
      else
        if 4 < wr y5 then
          some (.inl 3, μ)
        else
          (fX9_oneSwitchLeadsBeside n μ).bind fun y9 =>
          if wr y9.1 = 0 then
            some (.inl 3, y9.2)
          else
            some (.inl 2, y9.2))
    (fun E4 =>
    some (.inr E4, μ)) y1
def fX2_remember (n : Nat) (p0 : Nat) (p1 : Nat) (p2 : Int) (μ : qMu) : Option (qMu) :=
  (qLa qR33 (rd μ 32 4)).bind fun x1 =>
  (fX1_become n x1 p0 μ).bind fun y2 =>
  (qLa qR34 (rd y2 32 4)).bind fun x3 =>
  (fX1_become n x3 p1 y2).bind fun y4 =>
  (qSa y4 35 10 (rd y4 32 4) p2).bind fun μ5 =>
  (qPf μ5 32 4 (if wr ((rd μ5 32 4) + 1) < 10 then ((rd μ5 32 4) + 1) else 0)).bind fun μ9 =>
  (qPf μ9 32 3 (mn ((rd μ9 32 3) + 1) 10)).bind fun μ10 =>
  some μ10
def fX9_remember (n : Nat) (μ : qMu) : Option (qMu) :=
  (fX2_remember n 11 13 (rd μ 0 11) μ).bind fun y1 =>
  some y1
def fX9_addEdge (n : Nat) (p0 : Int) (p1 : Int) (μ : qMu) : Option ((Int ⊕ Nat) × qMu) :=
  (fX9_checkVertex p0 μ).bind fun y1 =>
  Sum.elim (fun v3 =>
    (fX9_checkVertex p1 μ).bind fun y5 =>
    Sum.elim (fun v7 =>
      (fX1_edgeCount 11 μ).bind fun y9 =>
      if wr y9 < 16 then
        (fX9_remember n μ).bind fun y11 =>
        (fX1_put 11 p0 p1 1 y11).bind fun y12 =>
        (fX1_between 11 p0 p1 y12).bind fun y13 =>
        some (.inl y13, y12)
      else
        some (.inr 3, μ))
      (fun E8 =>
      some (.inr E8, μ)) y5)
    (fun E4 =>
    some (.inr E4, μ)) y1
def fX9_removeEdge (n : Nat) (p0 : Int) (p1 : Int) (μ : qMu) : Option ((Int ⊕ Nat) × qMu) :=
  (fX9_checkVertex p0 μ).bind fun y1 =>
  Sum.elim (fun v3 =>
    (fX9_checkVertex p1 μ).bind fun y5 =>
    Sum.elim (fun v7 =>
      (fX9_checkEdge p0 p1 μ).bind fun y9 =>
      Sum.elim (fun v11 =>
        (fX9_remember n μ).bind fun y13 =>
        (fX1_put 11 p0 p1 (-1) y13).bind fun y14 =>
        (fX1_between 11 p0 p1 y14).bind fun y15 =>
        some (.inl y15, y14))
        (fun E12 =>
        some (.inr E12, μ)) y9)
      (fun E8 =>
      some (.inr E8, μ)) y5)
    (fun E4 =>
    some (.inr E4, μ)) y1
def fX9_switchEdges (n : Nat) (p0 : Int) (p1 : Int) (p2 : Int) (p3 : Int) (μ : qMu) : Option ((Int ⊕ Nat) × qMu) :=
  (fX9_checkVertices p0 p1 p2 p3 μ).bind fun y1 =>
  Sum.elim (fun v3 =>
    (fX9_checkPossible p0 p1 p2 p3 μ).bind fun y5 =>
    Sum.elim (fun v7 =>
      (fX9_remember n μ).bind fun y9 =>
      (fX0_of p0 p1 p2 p3 y9).bind fun y10 =>
      (fX1_exchangeEdges 11 y10 y9).bind fun y11 =>
      (fX1_defectCount n 11 y11).bind fun y12 =>
      some (.inl y12, y11))
      (fun E8 =>
      some (.inr E8, μ)) y5)
    (fun E4 =>
    some (.inr E4, μ)) y1
def fX9_realise (n : Nat) (p0 : Int) (μ : qMu) : Option ((Int ⊕ Nat) × qMu) :=
  (fX9_checkMode p0 μ).bind fun y1 =>
  Sum.elim (fun v3 =>
    (fX6_take n 22 11 μ).bind fun y5 =>
    (fX6_allows n 22 p0 y5).bind fun y6 =>
    if wr y6 = 0 then
      some (.inr 3, y5)
    else
      (fX9_remember n y5).bind fun y8 =>
      (fX6_build n 22 11 p0 y8).bind fun y9 =>
      (fX1_defectCount n 11 y9).bind fun y10 =>
      some (.inl y10, y9))
    (fun E4 =>
    some (.inr E4, μ)) y1
def bX9_follow_46 (n : Nat) (w1 : Int) (z2 : Int) (μ : qMu) : Option ((Int × qMu) ⊕ (qMu)) :=
  if wr z2 < wr w1 then
    (fX8_length μ).bind fun y10 =>
    if wr z2 < wr y10 then
      (fX8_codeAt z2 μ).bind fun y12 =>
      (fX1_exchangeEdges 11 y12 μ).bind fun y13 =>
      some (.inl ((z2 + 1), y13))
    else
      some (.inr μ)
  else
    some (.inr μ)
def fX9_follow (n : Nat) (p0 : Int) (μ : qMu) : Option ((Int ⊕ Nat) × qMu) :=
  if wr p0 < 0 then
    some (.inr 1, μ)
  else
    if 16 < wr p0 then
      some (.inr 1, μ)
    else
      (fX9_checkAlike n μ).bind fun y3 =>
      Sum.elim (fun v5 =>
        (fX9_remember n μ).bind fun y7 =>
        (fX8_find n 11 13 y7).bind fun y8 =>
        (lp (fun x : Int × qMu => bX9_follow_46 n p0 x.1 x.2) n (0, y8)).bind fun y14 =>
        (fX1_surplusOver n 11 13 y14).bind fun y15 =>
        some (.inl y15, y14))
        (fun E6 =>
        some (.inr E6, μ)) y3
def bX9_firstConnecting_37 (n : Nat) (w1 : Int) (z2 : Int) (μ : qMu) : Option ((Int × qMu) ⊕ ((qMu) ⊕ (Int × qMu))) :=
  (fX7_length μ).bind fun y4 =>
  if wr z2 < wr y4 then
    (fX7_codeAt z2 μ).bind fun y6 =>
    (fX1_exchangeEdges 15 y6 μ).bind fun y7 =>
    (fX9_partsWithEdges n 15 y7).bind fun y8 =>
    (fX7_codeAt z2 y8.2).bind fun y9 =>
    (fX0_backOf y9 y8.2).bind fun y10 =>
    (fX1_exchangeEdges 15 y10 y8.2).bind fun y11 =>
    if wr y8.1 < wr w1 then
      (fX7_codeAt z2 y11).bind fun y13 =>
      some (.inr (.inr (y13, y11)))
    else
      some (.inl ((z2 + 1), y11))
  else
    some (.inr (.inl μ))
def fX9_firstConnecting (n : Nat) (μ : qMu) : Option (Int × qMu) :=
  (fX9_partsWithEdges n 11 μ).bind fun y1 =>
  (fX7_fill n 11 (rd y1.2 0 11) y1.2).bind fun y2 =>
  (fX1_become n 15 11 y2).bind fun y3 =>
  (lp (fun x : Int × qMu => bX9_firstConnecting_37 n y1.1 x.1 x.2) n (0, y3)).bind fun y14 =>
  Sum.elim (fun b15 =>
    some ((-1), b15))
    (fun r16 => some r16) y14
def bX9_connect_6 (n : Nat) (z1 : Int) (μ : qMu) : Option ((Int × qMu) ⊕ (qMu)) :=
  if wr z1 < 8 then
    (fX9_firstConnecting n μ).bind fun y3 =>
    if wr y3.1 = (-1) then
      some (.inr y3.2)
    else
      (fX1_exchangeEdges 11 y3.1 y3.2).bind fun y5 =>
      some (.inl ((z1 + 1), y5))
  else
    some (.inr μ)
def fX9_connect (n : Nat) (μ : qMu) : Option (Int × qMu) :=
  (fX9_remember n μ).bind fun y1 =>
  (lp (fun x : Int × qMu => bX9_connect_6 n x.1 x.2) n (0, y1)).bind fun y6 =>
  (fX9_partsWithEdges n 11 y6).bind fun y7 =>
  some (y7.1, y7.2)
def bX9_mostSimplifying_35 (n : Nat) (z1 : Int) (z2 : Int) (z3 : Int) (μ : qMu) : Option ((Int × Int × Int × qMu) ⊕ (Int × qMu)) :=
  (fX7_length μ).bind fun y4 =>
  if wr z3 < wr y4 then
    (fX7_codeAt z3 μ).bind fun y6 =>
    (fX1_exchangeEdges 15 y6 μ).bind fun y7 =>
    (fX1_defectCount n 15 y7).bind fun y8 =>
    (fX7_codeAt z3 y7).bind fun y9 =>
    (fX0_backOf y9 y7).bind fun y10 =>
    (fX1_exchangeEdges 15 y10 y7).bind fun y11 =>
    (if wr y8 < wr z2 then
      (fX7_codeAt z3 y11).bind fun y14 =>
      some (y14, y8)
    else
      some (z1, z2) : Option (Int × Int)).bind fun y13 =>
    some (.inl (y13.1, y13.2, (z3 + 1), y11))
  else
    some (.inr (z1, μ))
def fX9_mostSimplifying (n : Nat) (μ : qMu) : Option (Int × qMu) :=
  (fX1_defectCount n 11 μ).bind fun y1 =>
  (fX7_fill n 11 0 μ).bind fun y2 =>
  (fX1_become n 15 11 y2).bind fun y3 =>
  (lp (fun x : Int × Int × Int × qMu => bX9_mostSimplifying_35 n x.1 x.2.1 x.2.2.1 x.2.2.2) n ((-1), y1, 0, y3)).bind fun y15 =>
  some (y15.1, y15.2)
def bX9_simplify_6 (n : Nat) (z1 : Int) (μ : qMu) : Option ((Int × qMu) ⊕ (qMu)) :=
  if wr z1 < 16 then
    (fX9_mostSimplifying n μ).bind fun y3 =>
    if wr y3.1 = (-1) then
      some (.inr y3.2)
    else
      (fX1_exchangeEdges 11 y3.1 y3.2).bind fun y5 =>
      some (.inl ((z1 + 1), y5))
  else
    some (.inr μ)
def fX9_simplify (n : Nat) (μ : qMu) : Option (Int × qMu) :=
  (fX9_remember n μ).bind fun y1 =>
  (lp (fun x : Int × qMu => bX9_simplify_6 n x.1 x.2) n (0, y1)).bind fun y6 =>
  (fX1_defectCount n 11 y6).bind fun y7 =>
  some (y7, y6)
def fX9_exchange (n : Nat) (μ : qMu) : Option (Int × qMu) :=
  (fX9_remember n μ).bind fun y1 =>
  (fX1_become n 17 11 y1).bind fun y2 =>
  (fX1_become n 11 13 y2).bind fun y3 =>
  (fX1_become n 13 17 y3).bind fun y4 =>
  (fX1_surplusOver n 11 13 y4).bind fun y5 =>
  some (y5, y4)
def fX9_copyToTarget (n : Nat) (μ : qMu) : Option (Int × qMu) :=
  (fX1_surplusOver n 11 13 μ).bind fun y1 =>
  (fX9_remember n μ).bind fun y2 =>
  (fX1_become n 13 11 y2).bind fun y3 =>
  some (y1, y3)
def fX9_setMode (n : Nat) (p0 : Int) (μ : qMu) : Option ((Int ⊕ Nat) × qMu) :=
  (fX9_checkMode p0 μ).bind fun y1 =>
  Sum.elim (fun v3 =>
    (fX9_remember n μ).bind fun y5 =>
    (qPf y5 0 11 p0).bind fun μ6 =>
    some (.inl (rd y5 0 11), μ6))
    (fun E4 =>
    some (.inr E4, μ)) y1
def fX2_length (μ : qMu) : Option (Int) :=
  some (rd μ 32 3)
def fX2_stepBack (μ : qMu) : Option (qMu) :=
  (qPf μ 32 4 (if 0 < wr (rd μ 32 4) then ((rd μ 32 4) - 1) else 9)).bind fun μ4 =>
  (qPf μ4 32 3 (mx ((rd μ4 32 3) - 1) 0)).bind fun μ5 =>
  some μ5
def fX2_lastGraph (μ : qMu) : Option (Nat) :=
  (qLa qR33 (rd μ 32 4)).bind fun x1 =>
  some x1
def fX2_lastTarget (μ : qMu) : Option (Nat) :=
  (qLa qR34 (rd μ 32 4)).bind fun x1 =>
  some x1
def fX2_lastMode (μ : qMu) : Option (Int) :=
  (qLd μ 35 10 (rd μ 32 4)).bind fun x1 =>
  some x1
def fX9_undo (n : Nat) (μ : qMu) : Option (Int × qMu) :=
  (fX2_length μ).bind fun y1 =>
  if wr y1 = 0 then
    some ((-1), μ)
  else
    (fX2_stepBack μ).bind fun y3 =>
    (fX2_lastGraph y3).bind fun y4 =>
    (fX1_become n 11 y4 y3).bind fun y5 =>
    (fX2_lastTarget y5).bind fun y6 =>
    (fX1_become n 13 y6 y5).bind fun y7 =>
    (fX2_lastMode y7).bind fun y8 =>
    (qPf y7 0 11 y8).bind fun μ9 =>
    (fX2_length μ9).bind fun y10 =>
    some (y10, μ9)
def fX3_append (p0 : Int) (μ : qMu) : Option (qMu) :=
  if wr (rd μ 76 1) < 64 then
    (qSa μ 77 64 (rd μ 76 1) (qNr .char p0)).bind fun μ2 =>
    (qPf μ2 76 1 ((rd μ2 76 1) + 1)).bind fun μ3 =>
    some μ3
  else
    some μ
def fX3_printDigit (p0 : Int) (μ : qMu) : Option (qMu) :=
  (fX3_append (i2c (48 + p0)) μ).bind fun y1 =>
  some y1
def fX3_printEdges (p0 : Int) (p1 : Int) (p2 : Int) (μ : qMu) : Option (qMu) :=
  (if 0 < wr (rd μ 76 1) then
    (fX3_append 32 μ).bind fun y3 =>
    some y3
  else
    some μ : Option (qMu)).bind fun y2 =>
  (fX3_printDigit p0 y2).bind fun y4 =>
  (fX3_append 45 y4).bind fun y5 =>
  (fX3_printDigit p1 y5).bind fun y6 =>
  if 1 < wr p2 then
    (fX3_append 120 y6).bind fun y8 =>
    (if 9 < wr p2 then
      (fX3_printDigit (idv p2 10) y8).bind fun y11 =>
      some y11
    else
      some y8 : Option (qMu)).bind fun y10 =>
    (fX3_printDigit (irm p2 10) y10).bind fun y12 =>
    some y12
  else
    some y6
def bX3_print_17 (n : Nat) (w1 : Nat) (w2 : Int) (z3 : Int) (μ : qMu) : Option ((Int × qMu) ⊕ (qMu)) :=
  (fX1_vertexCount w1 μ).bind fun y4 =>
  if wr z3 < wr y4 then
    (fX1_between w1 w2 z3 μ).bind fun y6 =>
    (if 0 < wr y6 then
      (fX1_between w1 w2 z3 μ).bind fun y9 =>
      (fX3_printEdges w2 z3 y9 μ).bind fun y10 =>
      some y10
    else
      some μ : Option (qMu)).bind fun y8 =>
    some (.inl ((z3 + 1), y8))
  else
    some (.inr μ)
def bX3_print_7 (n : Nat) (w1 : Nat) (z2 : Int) (μ : qMu) : Option ((Int × qMu) ⊕ (qMu)) :=
  (fX1_vertexCount w1 μ).bind fun y2 =>
  if wr z2 < wr y2 then
    (lp (fun x : Int × qMu => bX3_print_17 n w1 z2 x.1 x.2) n (z2, μ)).bind fun y11 =>
    some (.inl ((z2 + 1), y11))
  else
    some (.inr μ)
def fX3_print (n : Nat) (p0 : Nat) (μ : qMu) : Option (qMu) :=
  (qPf μ 76 1 0).bind fun μ1 =>
  (lp (fun x : Int × qMu => bX3_print_7 n p0 x.1 x.2) n (0, μ1)).bind fun y12 =>
  some y12
def fX3_length (μ : qMu) : Option (Int) :=
  some (rd μ 76 1)
def fX9_write (n : Nat) (p0 : Int) (μ : qMu) : Option (Int × qMu) :=
  (fX9_choose p0 μ).bind fun y1 =>
  (fX3_print n y1 μ).bind fun y2 =>
  (fX3_length y2).bind fun y3 =>
  some (y3, y2)
def fX3_signAt (p0 : Int) (μ : qMu) : Option (Int) :=
  (qLd μ 77 64 p0).bind fun x1 =>
  (qch x1).bind fun x2 =>
  some x2
def fX9_written (p0 : Int) (μ : qMu) : Option ((Int ⊕ Nat)) :=
  if wr p0 < 0 then
    some (.inr 0)
  else
    (fX3_length μ).bind fun y2 =>
    if wr p0 < wr y2 then
      (fX3_signAt p0 μ).bind fun y4 =>
      (qch y4).bind fun x5 =>
      some (.inl x5)
    else
      some (.inr 0)
def fX10_thrown (μ : qMu) : Option (Int) :=
  some (rd μ 78 4)
def fX10_isIn (p0 : Int) (p1 : Int) (p2 : Int) (μ : qMu) : Option (Int) :=
  if wr p0 < wr p1 then
    some 0
  else
    if wr p2 < wr p0 then
      some 0
    else
      some 1
def fX10_good (p0 : Int) (μ : qMu) : Option (Int × qMu) :=
  (qPf μ 78 4 (if wr p0 = 0 then 1 else 0)).bind fun μ4 =>
  (qbl p0).bind fun x5 =>
  some (x5, μ4)
def fX10_good__ (p0 : Int) (p1 : Int) (p2 : Int) (μ : qMu) : Option (Int × qMu) :=
  (qPf μ 78 4 0).bind fun μ1 =>
  (if wr p0 = 0 then
    (qPf μ1 78 4 1).bind fun μ4 =>
    some μ4
  else
    if wr p1 = 0 then
      (qPf μ1 78 4 2).bind fun μ6 =>
      some μ6
    else
      if wr p2 = 0 then
        (qPf μ1 78 4 3).bind fun μ8 =>
        some μ8
      else
        some μ1 : Option (qMu)).bind fun y3 =>
  if wr (rd y3 78 4) = 0 then
    some (1, y3)
  else
    some (0, y3)
def fX10_good_ (p0 : Int) (p1 : Int) (μ : qMu) : Option (Int × qMu) :=
  (fX10_good__ p0 p1 1 μ).bind fun y1 =>
  (qbl y1.1).bind fun x2 =>
  some (x2, y1.2)
def bX10_remember_13 (n : Nat) (z1 : Int) (μ : qMu) : Option ((Int × qMu) ⊕ (qMu)) :=
  if wr z1 < 1300 then
    (qLd μ 81 1300 z1).bind fun x4 =>
    (qSa μ 81 1300 (z1 - 130) x4).bind fun μ5 =>
    some (.inl ((z1 + 1), μ5))
  else
    some (.inr μ)
def bX10_remember_54 (n : Nat) (z1 : Int) (μ : qMu) : Option ((Int × qMu) ⊕ (qMu)) :=
  if wr z1 < 130 then
    (qLd μ 79 130 z1).bind fun x9 =>
    (qSa μ 81 1300 ((130 * (rd μ 78 3)) + z1) x9).bind fun μ10 =>
    some (.inl ((z1 + 1), μ10))
  else
    some (.inr μ)
def fX10_remember (n : Nat) (μ : qMu) : Option (qMu) :=
  (if wr (rd μ 78 3) = 10 then
    (lp (fun x : Int × qMu => bX10_remember_13 n x.1 x.2) n (130, μ)).bind fun y6 =>
    (qPf y6 78 3 ((rd y6 78 3) - 1)).bind fun μ7 =>
    some μ7
  else
    some μ : Option (qMu)).bind fun y2 =>
  (lp (fun x : Int × qMu => bX10_remember_54 n x.1 x.2) n (0, y2)).bind fun y11 =>
  (qPf y11 78 3 ((rd y11 78 3) + 1)).bind fun μ12 =>
  some μ12
def bX10_undo_26 (n : Nat) (z1 : Int) (μ : qMu) : Option ((Int × qMu) ⊕ (qMu)) :=
  if wr z1 < 130 then
    (qLd μ 81 1300 ((130 * (rd μ 78 3)) + z1)).bind fun x5 =>
    (qSa μ 79 130 z1 x5).bind fun μ6 =>
    some (.inl ((z1 + 1), μ6))
  else
    some (.inr μ)
def fX10_undo (n : Nat) (μ : qMu) : Option (Int × qMu) :=
  (qPf μ 78 4 0).bind fun μ1 =>
  if wr (rd μ1 78 3) = 0 then
    some ((-1), μ1)
  else
    (qPf μ1 78 3 ((rd μ1 78 3) - 1)).bind fun μ3 =>
    (lp (fun x : Int × qMu => bX10_undo_26 n x.1 x.2) n (0, μ3)).bind fun y7 =>
    some ((rd y7 78 3), y7)
def bX10_putAside_2 (n : Nat) (z1 : Int) (μ : qMu) : Option ((Int × qMu) ⊕ (qMu)) :=
  if wr z1 < 130 then
    (qLd μ 79 130 z1).bind fun x2 =>
    (qSa μ 80 130 z1 x2).bind fun μ3 =>
    some (.inl ((z1 + 1), μ3))
  else
    some (.inr μ)
def fX10_putAside (n : Nat) (μ : qMu) : Option (qMu) :=
  (lp (fun x : Int × qMu => bX10_putAside_2 n x.1 x.2) n (0, μ)).bind fun y4 =>
  some y4
def bX10_layBack_2 (n : Nat) (z1 : Int) (μ : qMu) : Option ((Int × qMu) ⊕ (qMu)) :=
  if wr z1 < 130 then
    (qLd μ 80 130 z1).bind fun x2 =>
    (qSa μ 79 130 z1 x2).bind fun μ3 =>
    some (.inl ((z1 + 1), μ3))
  else
    some (.inr μ)
def fX10_layBack (n : Nat) (μ : qMu) : Option (qMu) :=
  (lp (fun x : Int × qMu => bX10_layBack_2 n x.1 x.2) n (0, μ)).bind fun y4 =>
  some y4
def fX10_at (p0 : Int) (p1 : Int) (p2 : Int) (μ : qMu) : Option (Int) :=
  some ((p0 + (8 * p1)) + p2)
def fX10_many (p0 : Int) (p1 : Int) (p2 : Int) (μ : qMu) : Option (Int) :=
  (fX10_at p0 p1 p2 μ).bind fun y1 =>
  (qLd μ 79 130 y1).bind fun x2 =>
  some x2
def fX10_adds (p0 : Int) (p1 : Int) (p2 : Int) (p3 : Int) (μ : qMu) : Option (qMu) :=
  (fX10_at p0 p1 p2 μ).bind fun y1 =>
  (qLd μ 79 130 y1).bind fun x2 =>
  (qSa μ 79 130 y1 (x2 + p3)).bind fun μ3 =>
  if wr p1 = wr p2 then
    some μ3
  else
    (fX10_at p0 p2 p1 μ3).bind fun y5 =>
    (qLd μ3 79 130 y5).bind fun x6 =>
    (qSa μ3 79 130 y5 (x6 + p3)).bind fun μ7 =>
    some μ7
def bX10_empties_2 (n : Nat) (w1 : Int) (z2 : Int) (μ : qMu) : Option ((Int × qMu) ⊕ (qMu)) :=
  if wr z2 < 64 then
    (qSa μ 79 130 (w1 + z2) 0).bind fun μ2 =>
    some (.inl ((z2 + 1), μ2))
  else
    some (.inr μ)
def fX10_empties (n : Nat) (p0 : Int) (μ : qMu) : Option (qMu) :=
  (lp (fun x : Int × qMu => bX10_empties_2 n p0 x.1 x.2) n (0, μ)).bind fun y3 =>
  some y3
def bX10_edgesOf_13 (n : Nat) (w1 : Int) (w3 : Int) (z2 : Int) (z4 : Int) (μ : qMu) : Option ((Int × Int) ⊕ (Int)) :=
  if wr z4 < 8 then
    (fX10_many w1 w3 z4 μ).bind fun y3 =>
    some (.inl ((z2 + y3), (z4 + 1)))
  else
    some (.inr z2)
def bX10_edgesOf_4 (n : Nat) (w1 : Int) (z2 : Int) (z3 : Int) (μ : qMu) : Option ((Int × Int) ⊕ (Int)) :=
  if wr z3 < 8 then
    (lp (fun x : Int × Int => bX10_edgesOf_13 n w1 z3 x.1 x.2 μ) n (z2, z3)).bind fun y4 =>
    some (.inl (y4, (z3 + 1)))
  else
    some (.inr z2)
def fX10_edgesOf (n : Nat) (p0 : Int) (μ : qMu) : Option (Int) :=
  (lp (fun x : Int × Int => bX10_edgesOf_4 n p0 x.1 x.2 μ) n (0, 0)).bind fun y5 =>
  some y5
def bX10_degreeOf_11 (n : Nat) (w1 : Int) (w2 : Int) (z3 : Int) (z4 : Int) (μ : qMu) : Option ((Int × Int) ⊕ (Int)) :=
  if wr z4 < 8 then
    (fX10_many w1 w2 z4 μ).bind fun y3 =>
    some (.inl ((z3 + y3), (z4 + 1)))
  else
    some (.inr z3)
def fX10_degreeOf (n : Nat) (p0 : Int) (p1 : Int) (μ : qMu) : Option (Int) :=
  (fX10_many p0 p1 p1 μ).bind fun y1 =>
  (lp (fun x : Int × Int => bX10_degreeOf_11 n p0 p1 x.1 x.2 μ) n (y1, 0)).bind fun y4 =>
  some y4
def bX10_append_3 (n : Nat) (w1 : Int) (z2 : Int) (μ : qMu) : Option ((Int × qMu) ⊕ (qMu)) :=
  if wr z2 < 0 then
    some (.inr μ)
  else
    (qSa μ 82 400 (rd μ 78 6) (ian (iush w1 z2) 255)).bind fun μ2 =>
    (qPf μ2 78 6 ((rd μ2 78 6) + 1)).bind fun μ3 =>
    some (.inl ((z2 + (-8)), μ3))
def fX10_append (n : Nat) (p0 : Int) (μ : qMu) : Option (qMu) :=
  (lp (fun x : Int × qMu => bX10_append_3 n p0 x.1 x.2) n (24, μ)).bind fun y4 =>
  some y4
def fX10_feed (n : Nat) (p0 : Int) (p1 : Int) (p2 : Int) (p3 : Int) (p4 : Int) (μ : qMu) : Option (Int × qMu) :=
  (qPf μ 78 4 0).bind fun μ1 =>
  if 400 < wr ((rd μ1 78 6) + 20) then
    some ((-2), μ1)
  else
    (fX10_append n p0 μ1).bind fun y3 =>
    (fX10_append n p1 y3).bind fun y4 =>
    (fX10_append n p2 y4).bind fun y5 =>
    (fX10_append n p3 y5).bind fun y6 =>
    (fX10_append n p4 y6).bind fun y7 =>
    some ((rd y7 78 6), y7)
def fX10_byteAt (p0 : Int) (μ : qMu) : Option (Int) :=
  if wr p0 < wr (rd μ 78 9) then
    (qLd μ 82 400 p0).bind fun x2 =>
    some x2
  else
    some (-1)
def fX10_isLetter (p0 : Int) (μ : qMu) : Option (Int) :=
  if wr p0 < 97 then
    some 0
  else
    if 122 < wr p0 then
      some 0
    else
      some 1
def fX10_isDigit (p0 : Int) (μ : qMu) : Option (Int) :=
  if wr p0 < 48 then
    some 0
  else
    if 57 < wr p0 then
      some 0
    else
      some 1
def bX10_readWord_0 (n : Nat) (μ : qMu) : Option ((qMu) ⊕ (qMu)) :=
  (fX10_byteAt (rd μ 78 11) μ).bind fun y1 =>
  (fX10_isLetter y1 μ).bind fun y2 =>
  if wr y2 = 0 then
    some (.inr μ)
  else
    (qPf μ 78 11 ((rd μ 78 11) + 1)).bind fun μ4 =>
    some (.inl μ4)
def fX10_readWord (n : Nat) (μ : qMu) : Option (qMu) :=
  (lp (fun x : qMu => bX10_readWord_0 n x) n μ).bind fun y5 =>
  (qPf y5 78 12 (if 8 < wr ((rd y5 78 11) - (rd y5 78 10)) then 1 else 2)).bind fun μ9 =>
  some μ9
def bX10_readNumber_5 (n : Nat) (μ : qMu) : Option ((qMu) ⊕ (qMu)) :=
  (fX10_byteAt (rd μ 78 11) μ).bind fun y2 =>
  (fX10_isDigit y2 μ).bind fun y3 =>
  if wr y3 = 0 then
    some (.inr μ)
  else
    (if wr ((rd μ 78 11) - (rd μ 78 10)) < 2 then
      (fX10_byteAt (rd μ 78 11) μ).bind fun y7 =>
      some (((10 * (rd μ 78 13)) + y7) - 48)
    else
      some (rd μ 78 13) : Option (Int)).bind fun y6 =>
    (qPf μ 78 13 y6).bind fun μ8 =>
    (qPf μ8 78 11 ((rd μ8 78 11) + 1)).bind fun μ9 =>
    some (.inl μ9)
def fX10_readNumber (n : Nat) (μ : qMu) : Option (qMu) :=
  (qPf μ 78 13 0).bind fun μ1 =>
  (lp (fun x : qMu => bX10_readNumber_5 n x) n μ1).bind fun y10 =>
  (qPf y10 78 12 (if 2 < wr ((rd y10 78 11) - (rd y10 78 10)) then 1 else 3)).bind fun μ14 =>
  some μ14
def bX10_advance_0 (n : Nat) (μ : qMu) : Option ((qMu) ⊕ (qMu)) :=
  (fX10_byteAt (rd μ 78 11) μ).bind fun y1 =>
  if wr y1 = 32 then
    (qPf μ 78 11 ((rd μ 78 11) + 1)).bind fun μ3 =>
    some (.inl μ3)
  else
    (fX10_byteAt (rd μ 78 11) μ).bind fun y4 =>
    if wr y4 = 10 then
      (qPf μ 78 11 ((rd μ 78 11) + 1)).bind fun μ6 =>
      some (.inl μ6)
    else
      some (.inr μ)
def fX10_advance (n : Nat) (μ : qMu) : Option (Int × qMu) :=
  (lp (fun x : qMu => bX10_advance_0 n x) n μ).bind fun y7 =>
  (qPf y7 78 10 (rd y7 78 11)).bind fun μ8 =>
  (fX10_byteAt (rd μ8 78 11) μ8).bind fun y9 =>
  (if wr y9 = (-1) then
    (qPf μ8 78 12 0).bind fun μ12 =>
    some μ12
  else
    (fX10_isLetter y9 μ8).bind fun y13 =>
    if wr y13 = 0 then
      (fX10_isDigit y9 μ8).bind fun y15 =>
      if wr y15 = 0 then
        (qPf μ8 78 11 ((rd μ8 78 11) + 1)).bind fun μ17 =>
        (qPf μ17 78 12 (if wr y9 = 59 then 4 else 1)).bind fun μ21 =>
        some μ21
      else
        (fX10_readNumber n μ8).bind fun y22 =>
        some y22
    else
      (fX10_readWord n μ8).bind fun y23 =>
      some y23 : Option (qMu)).bind fun y11 =>
  some (1, y11)
def bX10_isWord_28 (n : Nat) (w1 : Nat) (z2 : Int) (μ : qMu) : Option ((Int) ⊕ ((Unit) ⊕ (Int))) :=
  if wr z2 < wr (qsl w1) then
    (qLd μ 82 400 ((rd μ 78 10) + z2)).bind fun x4 =>
    (qsc w1 z2).bind fun x5 =>
    if wr x4 = wr x5 then
      some (.inl (z2 + 1))
    else
      some (.inr (.inr 0))
  else
    some (.inr (.inl ()))
def fX10_isWord (n : Nat) (p0 : Nat) (μ : qMu) : Option (Int) :=
  if wr (rd μ 78 12) = 2 then
    if wr ((rd μ 78 11) - (rd μ 78 10)) = wr (qsl p0) then
      (lp (fun x : Int => bX10_isWord_28 n p0 x μ) n 0).bind fun y7 =>
      Sum.elim (fun b8 =>
        some 1)
        (fun r9 => some r9) y7
    else
      some 0
  else
    some 0
def fX10_fail (p0 : Int) (μ : qMu) : Option (Int × qMu) :=
  (qPf μ 78 14 (if wr (rd μ 78 12) = 1 then 1 else p0)).bind fun μ4 =>
  (qPf μ4 78 15 (rd μ4 78 10)).bind fun μ5 =>
  some (0, μ5)
def fX10_number (n : Nat) (p0 : Int) (p1 : Int) (μ : qMu) : Option (Int × qMu) :=
  if wr (rd μ 78 12) = 3 then
    (fX10_isIn (rd μ 78 13) p0 p1 μ).bind fun y2 =>
    if wr y2 = 0 then
      (fX10_fail 3 μ).bind fun y4 =>
      (qbl y4.1).bind fun x5 =>
      some (x5, y4.2)
    else
      (qPf μ 78 16 (rd μ 78 13)).bind fun μ6 =>
      (fX10_advance n μ6).bind fun y7 =>
      (qbl y7.1).bind fun x8 =>
      some (x8, y7.2)
  else
    (fX10_fail 2 μ).bind fun y9 =>
    (qbl y9.1).bind fun x10 =>
    some (x10, y9.2)
def fX10_closed (n : Nat) (μ : qMu) : Option (Int × qMu) :=
  if wr (rd μ 78 12) = 4 then
    (fX10_advance n μ).bind fun y2 =>
    (qbl y2.1).bind fun x3 =>
    some (x3, y2.2)
  else
    (fX10_fail 2 μ).bind fun y4 =>
    (qbl y4.1).bind fun x5 =>
    some (x5, y4.2)
def bX10_realisesByLoops_9 (n : Nat) (z1 : Int) (z2 : Int) (μ : qMu) : Option ((Int × Int × qMu) ⊕ (qMu)) :=
  (qLd μ 79 130 0).bind fun x2 =>
  if wr z2 < wr x2 then
    (qLd μ 87 8 z2).bind fun x4 =>
    (fX10_adds 2 z2 z2 (idv x4 2) μ).bind fun y5 =>
    (qLd y5 87 8 z2).bind fun x6 =>
    (if wr (irm x6 2) = 1 then
      if wr z1 = (-1) then
        some (z2, y5)
      else
        (qLd y5 87 8 z2).bind fun x10 =>
        if wr (irm x10 2) = 1 then
          (fX10_adds 2 z1 z2 1 y5).bind fun y12 =>
          some ((-1), y12)
        else
          some (z1, y5)
    else
      (qLd y5 87 8 z2).bind fun x13 =>
      if wr (irm x13 2) = 1 then
        (fX10_adds 2 z1 z2 1 y5).bind fun y15 =>
        some ((-1), y15)
      else
        some (z1, y5) : Option (Int × qMu)).bind fun y8 =>
    some (.inl (y8.1, (z2 + 1), y8.2))
  else
    some (.inr μ)
def fX10_realisesByLoops (n : Nat) (μ : qMu) : Option (qMu) :=
  (fX10_empties n 2 μ).bind fun y1 =>
  (lp (fun x : Int × Int × qMu => bX10_realisesByLoops_9 n x.1 x.2.1 x.2.2) n ((-1), 0, y1)).bind fun y16 =>
  some y16
def bX10_degreesStatement_9 (n : Nat) (z1 : Int) (z2 : Int) (μ : qMu) : Option ((Int × Int × qMu) ⊕ ((Int × Int × qMu) ⊕ (Int × qMu))) :=
  if wr z1 = 0 then
    if wr (rd μ 78 12) = 3 then
      (fX10_isIn (rd μ 78 13) 0 32 μ).bind fun y4 =>
      if wr y4 = 0 then
        (fX10_number n 0 32 μ).bind fun y6 =>
        if wr y6.1 = 0 then
          some (.inr (.inr (0, y6.2)))
        else
          (qSa y6.2 83 8 z1 (rd y6.2 78 16)).bind fun μ8 =>
          some (.inl ((z1 + 1), (z2 + (rd μ8 78 16)), μ8))
      else
        if wr z1 = 8 then
          (fX10_fail 5 μ).bind fun y10 =>
          (qbl y10.1).bind fun x11 =>
          some (.inr (.inr (x11, y10.2)))
        else
          (fX10_number n 0 32 μ).bind fun y12 =>
          if wr y12.1 = 0 then
            some (.inr (.inr (0, y12.2)))
          else
            (qSa y12.2 83 8 z1 (rd y12.2 78 16)).bind fun μ14 =>
            some (.inl ((z1 + 1), (z2 + (rd μ14 78 16)), μ14))
    else
      (fX10_number n 0 32 μ).bind fun y15 =>
      if wr y15.1 = 0 then
        some (.inr (.inr (0, y15.2)))
      else
        (qSa y15.2 83 8 z1 (rd y15.2 78 16)).bind fun μ17 =>
        some (.inl ((z1 + 1), (z2 + (rd μ17 78 16)), μ17))
  else
    if wr (rd μ 78 12) = 3 then
      if wr (rd μ 78 12) = 3 then
        (fX10_isIn (rd μ 78 13) 0 32 μ).bind fun y20 =>
        if wr y20 = 0 then
          (fX10_number n 0 32 μ).bind fun y22 =>
          if wr y22.1 = 0 then
            some (.inr (.inr (0, y22.2)))
          else
            (qSa y22.2 83 8 z1 (rd y22.2 78 16)).bind fun μ24 =>
            some (.inl ((z1 + 1), (z2 + (rd μ24 78 16)), μ24))
        else
          if wr z1 = 8 then
            (fX10_fail 5 μ).bind fun y26 =>
            (qbl y26.1).bind fun x27 =>
            some (.inr (.inr (x27, y26.2)))
          else
            (fX10_number n 0 32 μ).bind fun y28 =>
            if wr y28.1 = 0 then
              some (.inr (.inr (0, y28.2)))
            else
              (qSa y28.2 83 8 z1 (rd y28.2 78 16)).bind fun μ30 =>
              some (.inl ((z1 + 1), (z2 + (rd μ30 78 16)), μ30))
      else
        (fX10_number n 0 32 μ).bind fun y31 =>
        if wr y31.1 = 0 then
          some (.inr (.inr (0, y31.2)))
        else
          (qSa y31.2 83 8 z1 (rd y31.2 78 16)).bind fun μ33 =>
          some (.inl ((z1 + 1), (z2 + (rd μ33 78 16)), μ33))
    else
      some (.inr (.inl (z1, z2, μ)))
def bX10_degreesStatement_125 (n : Nat) (w1 : Int) (z3 : Int) (μ : qMu) : Option ((Int × qMu) ⊕ (qMu)) :=
  if wr z3 < wr w1 then
    (qLd μ 83 8 z3).bind fun x51 =>
    (qSa μ 87 8 z3 x51).bind fun μ52 =>
    some (.inl ((z3 + 1), μ52))
  else
    some (.inr μ)
def fX10_degreesStatement (n : Nat) (μ : qMu) : Option (Int × qMu) :=
  (fX10_advance n μ).bind fun y1 =>
  (lp (fun x : Int × Int × qMu => bX10_degreesStatement_9 n x.1 x.2.1 x.2.2) n (0, 0, y1.2)).bind fun y34 =>
  Sum.elim (fun b35 =>
    if wr (rd b35.2.2 78 12) = 4 then
      if wr (irm b35.2.1 2) = 1 then
        (fX10_fail 4 b35.2.2).bind fun y38 =>
        (qbl y38.1).bind fun x39 =>
        some (x39, y38.2)
      else
        if 32 < wr b35.2.1 then
          (fX10_fail 4 b35.2.2).bind fun y41 =>
          (qbl y41.1).bind fun x42 =>
          some (x42, y41.2)
        else
          (qSa b35.2.2 79 130 0 b35.1).bind fun μ43 =>
          (lp (fun x : Int × qMu => bX10_degreesStatement_125 n b35.1 x.1 x.2) n (0, μ43)).bind fun y47 =>
          (fX10_realisesByLoops n y47).bind fun y48 =>
          some (1, y48)
    else
      (qSa b35.2.2 79 130 0 b35.1).bind fun μ49 =>
      (lp (fun x : Int × qMu => bX10_degreesStatement_125 n b35.1 x.1 x.2) n (0, μ49)).bind fun y53 =>
      (fX10_realisesByLoops n y53).bind fun y54 =>
      some (1, y54))
    (fun r55 => some r55) y34
def fX10_verticesStatement (n : Nat) (μ : qMu) : Option (Int × qMu) :=
  (fX10_advance n μ).bind fun y1 =>
  (fX10_number n 1 8 y1.2).bind fun y2 =>
  if wr y2.1 = 0 then
    some (0, y2.2)
  else
    (qSa y2.2 79 130 0 (rd y2.2 78 16)).bind fun μ4 =>
    some (1, μ4)
def fX10_edgeStatement (n : Nat) (p0 : Int) (μ : qMu) : Option (Int × qMu) :=
  (fX10_advance n μ).bind fun y1 =>
  (qLd y1.2 79 130 0).bind fun x2 =>
  (fX10_number n 0 (x2 - 1) y1.2).bind fun y3 =>
  if wr y3.1 = 0 then
    some (0, y3.2)
  else
    (qLd y3.2 79 130 0).bind fun x5 =>
    (fX10_number n 0 (x5 - 1) y3.2).bind fun y6 =>
    if wr y6.1 = 0 then
      some (0, y6.2)
    else
      if wr (rd y6.2 78 12) = 3 then
        (fX10_isIn (rd y6.2 78 13) 1 9 y6.2).bind fun y9 =>
        if wr y9 = 0 then
          (fX10_fail 3 y6.2).bind fun y11 =>
          (qbl y11.1).bind fun x12 =>
          some (x12, y11.2)
        else
          (fX10_edgesOf n p0 y6.2).bind fun y13 =>
          if 16 < wr (y13 + (rd y6.2 78 13)) then
            (fX10_fail 5 y6.2).bind fun y15 =>
            (qbl y15.1).bind fun x16 =>
            some (x16, y15.2)
          else
            (if wr (rd y6.2 78 12) = 3 then
              (fX10_advance n y6.2).bind fun y19 =>
              some y19.2
            else
              some y6.2 : Option (qMu)).bind fun y18 =>
            (fX10_adds p0 (rd y3.2 78 16) (rd y6.2 78 16) (rd y6.2 78 13) y18).bind fun y20 =>
            some (1, y20)
      else
        if wr (rd y6.2 78 12) = 4 then
          (fX10_edgesOf n p0 y6.2).bind fun y22 =>
          if 16 < wr (y22 + 1) then
            (fX10_fail 5 y6.2).bind fun y24 =>
            (qbl y24.1).bind fun x25 =>
            some (x25, y24.2)
          else
            (if wr (rd y6.2 78 12) = 3 then
              (fX10_advance n y6.2).bind fun y28 =>
              some y28.2
            else
              some y6.2 : Option (qMu)).bind fun y27 =>
            (fX10_adds p0 (rd y3.2 78 16) (rd y6.2 78 16) 1 y27).bind fun y29 =>
            some (1, y29)
        else
          (fX10_fail 2 y6.2).bind fun y30 =>
          (qbl y30.1).bind fun x31 =>
          some (x31, y30.2)
def fX10_modeStatement (n : Nat) (μ : qMu) : Option (Int × qMu) :=
  (fX10_advance n μ).bind fun y1 =>
  (fX10_number n 0 2 y1.2).bind fun y2 =>
  if wr y2.1 = 0 then
    some (0, y2.2)
  else
    (qSa y2.2 79 130 1 (rd y2.2 78 16)).bind fun μ4 =>
    some (1, μ4)
def fX10_firstStatement (n : Nat) (μ : qMu) : Option (Int × qMu) :=
  (fX10_isWord n 1000005 μ).bind fun y1 =>
  if wr y1 = 0 then
    (fX10_isWord n 1000006 μ).bind fun y3 =>
    if wr y3 = 0 then
      (fX10_fail 2 μ).bind fun y5 =>
      (qbl y5.1).bind fun x6 =>
      some (x6, y5.2)
    else
      (fX10_degreesStatement n μ).bind fun y7 =>
      (qbl y7.1).bind fun x8 =>
      some (x8, y7.2)
  else
    (fX10_verticesStatement n μ).bind fun y9 =>
    (qbl y9.1).bind fun x10 =>
    some (x10, y9.2)
def fX10_statement (n : Nat) (μ : qMu) : Option (Int × qMu) :=
  (fX10_isWord n 1000007 μ).bind fun y1 =>
  if wr y1 = 0 then
    (fX10_isWord n 1000008 μ).bind fun y3 =>
    if wr y3 = 0 then
      (fX10_isWord n 1000009 μ).bind fun y5 =>
      if wr y5 = 0 then
        (fX10_fail 2 μ).bind fun y7 =>
        (qbl y7.1).bind fun x8 =>
        some (x8, y7.2)
      else
        (fX10_modeStatement n μ).bind fun y9 =>
        (qbl y9.1).bind fun x10 =>
        some (x10, y9.2)
    else
      (fX10_edgeStatement n 66 μ).bind fun y11 =>
      (qbl y11.1).bind fun x12 =>
      some (x12, y11.2)
  else
    (fX10_edgeStatement n 2 μ).bind fun y13 =>
    (qbl y13.1).bind fun x14 =>
    some (x14, y13.2)
def bX10_parse_27 (n : Nat) (z2 : Int) (μ : qMu) : Option ((Int × qMu) ⊕ (qMu)) :=
  if wr z2 < 130 then
    (qSa μ 79 130 z2 0).bind fun μ7 =>
    some (.inl ((z2 + 1), μ7))
  else
    some (.inr μ)
def bX10_parse_86 (n : Nat) (z2 : Int) (μ : qMu) : Option ((Int × qMu) ⊕ (Int × qMu)) :=
  if wr z2 = 0 then
    some (.inr (z2, μ))
  else
    if wr (rd μ 78 12) = 0 then
      some (.inr (z2, μ))
    else
      (fX10_statement n μ).bind fun y19 =>
      (if wr y19.1 = 0 then
        some (0, y19.2)
      else
        (fX10_closed n y19.2).bind fun y22 =>
        if wr y22.1 = 0 then
          some (0, y22.2)
        else
          some (1, y22.2) : Option (Int × qMu)).bind fun y21 =>
      some (.inl (y21.1, y21.2))
def fX10_parse (n : Nat) (p0 : Int) (μ : qMu) : Option (Int × qMu) :=
  (qPf μ 78 9 p0).bind fun μ1 =>
  (qPf μ1 78 6 0).bind fun μ2 =>
  (qPf μ2 78 11 0).bind fun μ3 =>
  (qPf μ3 78 14 0).bind fun μ4 =>
  (qPf μ4 78 15 (-1)).bind fun μ5 =>
  (lp (fun x : Int × qMu => bX10_parse_27 n x.1 x.2) n (0, μ5)).bind fun y8 =>
  (qSa y8 79 130 0 1).bind fun μ9 =>
  (fX10_advance n μ9).bind fun y10 =>
  (if wr (rd y10.2 78 12) = 0 then
    some (1, y10.2)
  else
    (fX10_firstStatement n y10.2).bind fun y13 =>
    if wr y13.1 = 0 then
      some (0, y13.2)
    else
      (fX10_closed n y13.2).bind fun y15 =>
      if wr y15.1 = 0 then
        some (0, y15.2)
      else
        some (1, y15.2) : Option (Int × qMu)).bind fun y12 =>
  (lp (fun x : Int × qMu => bX10_parse_86 n x.1 x.2) n (y12.1, y12.2)).bind fun y24 =>
  (qbl y24.1).bind fun x25 =>
  some (x25, y24.2)
def fX10_load (n : Nat) (p0 : Int) (μ : qMu) : Option (Int × qMu) :=
  (fX10_isIn p0 0 (rd μ 78 6) μ).bind fun y1 =>
  (fX10_good y1 μ).bind fun y2 =>
  if wr y2.1 = 0 then
    some (0, y2.2)
  else
    (fX10_putAside n y2.2).bind fun y4 =>
    (fX10_parse n p0 y4).bind fun y5 =>
    (qPf y5.2 78 7 (rd y5.2 78 14)).bind fun μ6 =>
    (qPf μ6 78 8 (rd μ6 78 15)).bind fun μ7 =>
    if wr y5.1 = 0 then
      (fX10_layBack n μ7).bind fun y9 =>
      some ((-3), y9)
    else
      (qPf μ7 78 3 0).bind fun μ10 =>
      (fX10_edgesOf n 2 μ10).bind fun y11 =>
      some (y11, μ10)
def fX10_errorKind (μ : qMu) : Option (Int × qMu) :=
  (qPf μ 78 4 0).bind fun μ1 =>
  some ((rd μ1 78 7), μ1)
def fX10_errorPosition (μ : qMu) : Option (Int × qMu) :=
  (qPf μ 78 4 0).bind fun μ1 =>
  some ((rd μ1 78 8), μ1)
def fX10_isVertex (p0 : Int) (μ : qMu) : Option (Int) :=
  (qLd μ 79 130 0).bind fun x1 =>
  (fX10_isIn p0 0 (x1 - 1) μ).bind fun y2 =>
  (qbl y2).bind fun x3 =>
  some x3
def fX10_areVertices (p0 : Int) (p1 : Int) (μ : qMu) : Option (Int) :=
  (fX10_isVertex p0 μ).bind fun y1 =>
  if wr y1 = 0 then
    some 0
  else
    (fX10_isVertex p1 μ).bind fun y3 =>
    if wr y3 = 0 then
      some 0
    else
      some 1
def fX10_vertices (μ : qMu) : Option (Int × qMu) :=
  (qPf μ 78 4 0).bind fun μ1 =>
  (qLd μ1 79 130 0).bind fun x2 =>
  some (x2, μ1)
def fX10_mode (μ : qMu) : Option (Int × qMu) :=
  (qPf μ 78 4 0).bind fun μ1 =>
  (qLd μ1 79 130 1).bind fun x2 =>
  some (x2, μ1)
def fX10_table (p0 : Int) (μ : qMu) : Option (Int) :=
  if wr p0 = 0 then
    some 2
  else
    some 66
def fX10_edges (n : Nat) (p0 : Int) (μ : qMu) : Option (Int × qMu) :=
  (qPf μ 78 4 0).bind fun μ1 =>
  (fX10_table p0 μ1).bind fun y2 =>
  (fX10_edgesOf n y2 μ1).bind fun y3 =>
  some (y3, μ1)
def fX10_times (p0 : Int) (p1 : Int) (p2 : Int) (μ : qMu) : Option (Int × qMu) :=
  (fX10_areVertices p0 p1 μ).bind fun y1 =>
  (fX10_good y1 μ).bind fun y2 =>
  if wr y2.1 = 0 then
    some (0, y2.2)
  else
    (fX10_table p2 y2.2).bind fun y4 =>
    (fX10_many y4 p0 p1 y2.2).bind fun y5 =>
    some (y5, y2.2)
def fX10_degree (n : Nat) (p0 : Int) (p1 : Int) (μ : qMu) : Option (Int × qMu) :=
  (fX10_isVertex p0 μ).bind fun y1 =>
  (fX10_good y1 μ).bind fun y2 =>
  if wr y2.1 = 0 then
    some (0, y2.2)
  else
    (fX10_table p1 y2.2).bind fun y4 =>
    (fX10_degreeOf n y4 p0 y2.2).bind fun y5 =>
    some (y5, y2.2)
def bX10_loopsNow_4 (n : Nat) (z1 : Int) (z2 : Int) (μ : qMu) : Option ((Int × Int) ⊕ (Int)) :=
  if wr z2 < 8 then
    (fX10_many 2 z2 z2 μ).bind fun y2 =>
    some (.inl ((z1 + y2), (z2 + 1)))
  else
    some (.inr z1)
def fX10_loopsNow (n : Nat) (μ : qMu) : Option (Int) :=
  (lp (fun x : Int × Int => bX10_loopsNow_4 n x.1 x.2 μ) n (0, 0)).bind fun y3 =>
  some y3
def fX10_loops (n : Nat) (μ : qMu) : Option (Int × qMu) :=
  (qPf μ 78 4 0).bind fun μ1 =>
  (fX10_loopsNow n μ1).bind fun y2 =>
  some (y2, μ1)
def bX10_defectsNow_17 (n : Nat) (w2 : Int) (z1 : Int) (z3 : Int) (μ : qMu) : Option ((Int × Int) ⊕ (Int)) :=
  if wr z3 < 8 then
    (fX10_many 2 w2 z3 μ).bind fun y4 =>
    some (.inl ((z1 + (mx 0 (y4 - 1))), (z3 + 1)))
  else
    some (.inr z1)
def bX10_defectsNow_7 (n : Nat) (z1 : Int) (z2 : Int) (μ : qMu) : Option ((Int × Int) ⊕ (Int)) :=
  if wr z2 < 8 then
    (lp (fun x : Int × Int => bX10_defectsNow_17 n z2 x.1 x.2 μ) n (z1, (z2 + 1))).bind fun y5 =>
    some (.inl (y5, (z2 + 1)))
  else
    some (.inr z1)
def fX10_defectsNow (n : Nat) (μ : qMu) : Option (Int) :=
  (fX10_loopsNow n μ).bind fun y1 =>
  (lp (fun x : Int × Int => bX10_defectsNow_7 n x.1 x.2 μ) n (y1, 0)).bind fun y6 =>
  some y6
def fX10_defects (n : Nat) (μ : qMu) : Option (Int × qMu) :=
  (qPf μ 78 4 0).bind fun μ1 =>
  (fX10_defectsNow n μ1).bind fun y2 =>
  some (y2, μ1)
def fX10_isSimple (n : Nat) (μ : qMu) : Option (Int × qMu) :=
  (qPf μ 78 4 0).bind fun μ1 =>
  (fX10_defectsNow n μ1).bind fun y2 =>
  if wr y2 = 0 then
    some (1, μ1)
  else
    some (0, μ1)
def fX10_areJoined (p0 : Int) (p1 : Int) (μ : qMu) : Option (Int) :=
  if wr p0 = wr p1 then
    some 0
  else
    (fX10_many 2 p0 p1 μ).bind fun y2 =>
    if 0 < wr y2 then
      some 1
    else
      some 0
def bX10_neighbours_18 (n : Nat) (w1 : Int) (z2 : Int) (z3 : Int) (μ : qMu) : Option ((Int × Int) ⊕ (Int)) :=
  if wr z3 < 8 then
    (fX10_areJoined w1 z3 μ).bind fun y5 =>
    some (.inl ((if wr y5 = 0 then z2 else (z2 + 1)), (z3 + 1)))
  else
    some (.inr z2)
def fX10_neighbours (n : Nat) (p0 : Int) (μ : qMu) : Option (Int × qMu) :=
  (fX10_isVertex p0 μ).bind fun y1 =>
  (fX10_good y1 μ).bind fun y2 =>
  if wr y2.1 = 0 then
    some (0, y2.2)
  else
    (lp (fun x : Int × Int => bX10_neighbours_18 n p0 x.1 x.2 y2.2) n (0, 0)).bind fun y9 =>
    some (y9, y2.2)
def bX10_triangles_30 (n : Nat) (w2 : Int) (w3 : Int) (z1 : Int) (z4 : Int) (μ : qMu) : Option ((Int × Int) ⊕ (Int)) :=
  if wr z4 < 8 then
    (fX10_areJoined w2 w3 μ).bind fun y5 =>
    (if wr y5 = 0 then
      some z1
    else
      (fX10_areJoined w3 z4 μ).bind fun y8 =>
      if wr y8 = 0 then
        some z1
      else
        (fX10_areJoined w2 z4 μ).bind fun y10 =>
        if wr y10 = 0 then
          some z1
        else
          some (z1 + 1) : Option (Int)).bind fun y7 =>
    some (.inl (y7, (z4 + 1)))
  else
    some (.inr z1)
def bX10_triangles_19 (n : Nat) (w2 : Int) (z1 : Int) (z3 : Int) (μ : qMu) : Option ((Int × Int) ⊕ (Int)) :=
  if wr z3 < 8 then
    (lp (fun x : Int × Int => bX10_triangles_30 n w2 z3 x.1 x.2 μ) n (z1, (z3 + 1))).bind fun y12 =>
    some (.inl (y12, (z3 + 1)))
  else
    some (.inr z1)
def bX10_triangles_9 (n : Nat) (z1 : Int) (z2 : Int) (μ : qMu) : Option ((Int × Int) ⊕ (Int)) :=
  if wr z2 < 8 then
    (lp (fun x : Int × Int => bX10_triangles_19 n z2 x.1 x.2 μ) n (z1, (z2 + 1))).bind fun y13 =>
    some (.inl (y13, (z2 + 1)))
  else
    some (.inr z1)
def fX10_triangles (n : Nat) (μ : qMu) : Option (Int × qMu) :=
  (qPf μ 78 4 0).bind fun μ1 =>
  (lp (fun x : Int × Int => bX10_triangles_9 n x.1 x.2 μ1) n (0, 0)).bind fun y14 =>
  some (y14, μ1)
def bX10_spreads_32 (n : Nat) (w2 : Int) (w4 : Int) (z3 : Int) (z5 : Int) (μ : qMu) : Option ((Int × Int × qMu) ⊕ (Int × qMu)) :=
  (qLd μ 79 130 0).bind fun x5 =>
  if wr z5 < wr x5 then
    (qLd μ 84 8 w4).bind fun x7 =>
    (if wr x7 = wr w2 then
      (qLd μ 84 8 z5).bind fun x10 =>
      if wr x10 = (-1) then
        (fX10_areJoined w4 z5 μ).bind fun y12 =>
        if wr y12 = 0 then
          some (z3, μ)
        else
          (qSa μ 84 8 z5 w2).bind fun μ14 =>
          some (1, μ14)
      else
        some (z3, μ)
    else
      some (z3, μ) : Option (Int × qMu)).bind fun y9 =>
    some (.inl (y9.1, (z5 + 1), y9.2))
  else
    some (.inr (z3, μ))
def bX10_spreads_18 (n : Nat) (w2 : Int) (z3 : Int) (z4 : Int) (μ : qMu) : Option ((Int × Int × qMu) ⊕ (Int × qMu)) :=
  (qLd μ 79 130 0).bind fun x3 =>
  if wr z4 < wr x3 then
    (lp (fun x : Int × Int × qMu => bX10_spreads_32 n w2 z4 x.1 x.2.1 x.2.2) n (z3, 0, μ)).bind fun y15 =>
    some (.inl (y15.1, (z4 + 1), y15.2))
  else
    some (.inr (z3, μ))
def bX10_spreads_9 (n : Nat) (w2 : Int) (z3 : Int) (μ : qMu) : Option ((Int × qMu) ⊕ (qMu)) :=
  if wr z3 = 0 then
    some (.inr μ)
  else
    (lp (fun x : Int × Int × qMu => bX10_spreads_18 n w2 x.1 x.2.1 x.2.2) n (0, 0, μ)).bind fun y16 =>
    some (.inl (y16.1, y16.2))
def fX10_spreads (n : Nat) (p0 : Int) (p1 : Int) (μ : qMu) : Option (qMu) :=
  (qSa μ 84 8 p0 p1).bind fun μ1 =>
  (lp (fun x : Int × qMu => bX10_spreads_9 n p1 x.1 x.2) n (1, μ1)).bind fun y17 =>
  some y17
def bX10_laysParts_2 (n : Nat) (z1 : Int) (μ : qMu) : Option ((Int × qMu) ⊕ (qMu)) :=
  if wr z1 < 8 then
    (qSa μ 84 8 z1 (-1)).bind fun μ2 =>
    some (.inl ((z1 + 1), μ2))
  else
    some (.inr μ)
def bX10_laysParts_25 (n : Nat) (z1 : Int) (z2 : Int) (μ : qMu) : Option ((Int × Int × qMu) ⊕ (Int × qMu)) :=
  (qLd μ 79 130 0).bind fun x4 =>
  if wr z2 < wr x4 then
    (qLd μ 84 8 z2).bind fun x6 =>
    (if wr x6 = (-1) then
      (fX10_spreads n z2 z1 μ).bind fun y9 =>
      some ((z1 + 1), y9)
    else
      some (z1, μ) : Option (Int × qMu)).bind fun y8 =>
    some (.inl (y8.1, (z2 + 1), y8.2))
  else
    some (.inr (z1, μ))
def fX10_laysParts (n : Nat) (μ : qMu) : Option (Int × qMu) :=
  (lp (fun x : Int × qMu => bX10_laysParts_2 n x.1 x.2) n (0, μ)).bind fun y3 =>
  (lp (fun x : Int × Int × qMu => bX10_laysParts_25 n x.1 x.2.1 x.2.2) n (0, 0, y3)).bind fun y10 =>
  some (y10.1, y10.2)
def bX10_partsWithEdges_20 (n : Nat) (w1 : Int) (w2 : Int) (w3 : Int) (z4 : Int) (z5 : Int) (μ : qMu) : Option ((Int × Int) ⊕ (Int)) :=
  (qLd μ 79 130 0).bind fun x3 =>
  if wr z5 < wr x3 then
    (if wr z4 = 0 then
      (qLd μ 84 8 z5).bind fun x7 =>
      if wr x7 = wr w3 then
        (fX10_degreeOf n 2 z5 μ).bind fun y9 =>
        if 0 < wr y9 then
          some 1
        else
          some 0
      else
        some 0
    else
      some 1 : Option (Int)).bind fun y6 =>
    some (.inl (y6, (z5 + 1)))
  else
    some (.inr z4)
def bX10_partsWithEdges_9 (n : Nat) (w1 : Int) (z2 : Int) (z3 : Int) (μ : qMu) : Option ((Int × Int) ⊕ (Int)) :=
  if wr z3 < wr w1 then
    (lp (fun x : Int × Int => bX10_partsWithEdges_20 n w1 z2 z3 x.1 x.2 μ) n (0, 0)).bind fun y11 =>
    some (.inl ((z2 + (if wr y11 = 0 then 0 else 1)), (z3 + 1)))
  else
    some (.inr z2)
def fX10_partsWithEdges (n : Nat) (μ : qMu) : Option (Int × qMu) :=
  (fX10_laysParts n μ).bind fun y1 =>
  (lp (fun x : Int × Int => bX10_partsWithEdges_9 n y1.1 x.1 x.2 y1.2) n (0, 0)).bind fun y15 =>
  some (y15, y1.2)
def fX10_components (n : Nat) (μ : qMu) : Option (Int × qMu) :=
  (qPf μ 78 4 0).bind fun μ1 =>
  (fX10_laysParts n μ1).bind fun y2 =>
  some (y2.1, y2.2)
def fX10_component (n : Nat) (p0 : Int) (μ : qMu) : Option (Int × qMu) :=
  (fX10_isVertex p0 μ).bind fun y1 =>
  (fX10_good y1 μ).bind fun y2 =>
  if wr y2.1 = 0 then
    some (0, y2.2)
  else
    (fX10_laysParts n y2.2).bind fun y4 =>
    (qLd y4.2 84 8 p0).bind fun x5 =>
    some ((mn y4.1 x5), y4.2)
def fX10_isConnected (n : Nat) (μ : qMu) : Option (Int × qMu) :=
  (qPf μ 78 4 0).bind fun μ1 =>
  (fX10_partsWithEdges n μ1).bind fun y2 =>
  if 1 < wr y2.1 then
    some (0, y2.2)
  else
    some (1, y2.2)
def fX10_isBridgeNow (n : Nat) (p0 : Int) (p1 : Int) (μ : qMu) : Option (Int × qMu) :=
  if wr p0 = wr p1 then
    some (0, μ)
  else
    (fX10_many 2 p0 p1 μ).bind fun y2 =>
    if wr y2 = 1 then
      (fX10_adds 2 p0 p1 (-1) μ).bind fun y4 =>
      (fX10_laysParts n y4).bind fun y5 =>
      (fX10_adds 2 p0 p1 1 y5.2).bind fun y6 =>
      if 1 < wr y5.1 then
        (qLd y6 84 8 p0).bind fun x8 =>
        (qLd y6 84 8 p1).bind fun x9 =>
        if wr x8 = wr x9 then
          some (0, y6)
        else
          some (1, y6)
      else
        some (0, y6)
    else
      some (0, μ)
def fX10_isBridge (n : Nat) (p0 : Int) (p1 : Int) (μ : qMu) : Option (Int × qMu) :=
  (fX10_areVertices p0 p1 μ).bind fun y1 =>
  (if wr y1 = 0 then
    some 0
  else
    (fX10_many 2 p0 p1 μ).bind fun y4 =>
    if 0 < wr y4 then
      some 1
    else
      some 0 : Option (Int)).bind fun y3 =>
  (fX10_good_ y1 y3 μ).bind fun y6 =>
  if wr y6.1 = 0 then
    some (0, y6.2)
  else
    (fX10_isBridgeNow n p0 p1 y6.2).bind fun y8 =>
    if wr y8.1 = 0 then
      some (0, y8.2)
    else
      some (1, y8.2)
def bX10_bridges_23 (n : Nat) (w2 : Int) (z1 : Int) (z3 : Int) (μ : qMu) : Option ((Int × Int × qMu) ⊕ (Int × qMu)) :=
  (qLd μ 79 130 0).bind fun x4 =>
  if wr z3 < wr x4 then
    (fX10_isBridgeNow n w2 z3 μ).bind fun y6 =>
    some (.inl ((if wr y6.1 = 0 then z1 else (z1 + 1)), (z3 + 1), y6.2))
  else
    some (.inr (z1, μ))
def bX10_bridges_9 (n : Nat) (z1 : Int) (z2 : Int) (μ : qMu) : Option ((Int × Int × qMu) ⊕ (Int × qMu)) :=
  (qLd μ 79 130 0).bind fun x2 =>
  if wr z2 < wr x2 then
    (lp (fun x : Int × Int × qMu => bX10_bridges_23 n z2 x.1 x.2.1 x.2.2) n (z1, (z2 + 1), μ)).bind fun y10 =>
    some (.inl (y10.1, (z2 + 1), y10.2))
  else
    some (.inr (z1, μ))
def fX10_bridges (n : Nat) (μ : qMu) : Option (Int × qMu) :=
  (qPf μ 78 4 0).bind fun μ1 =>
  (lp (fun x : Int × Int × qMu => bX10_bridges_9 n x.1 x.2.1 x.2.2) n (0, 0, μ1)).bind fun y11 =>
  some (y11.1, y11.2)
def bX10_way_17 (n : Nat) (w1 : Int) (w2 : Int) (z3 : Int) (μ : qMu) : Option ((Int × qMu) ⊕ (qMu)) :=
  if wr z3 < 8 then
    (qSa μ 85 8 z3 (if wr z3 = wr w1 then 0 else 8)).bind fun μ8 =>
    some (.inl ((z3 + 1), μ8))
  else
    some (.inr μ)
def bX10_way_67 (n : Nat) (w2 : Int) (w3 : Int) (w4 : Int) (z5 : Int) (μ : qMu) : Option ((Int × qMu) ⊕ (qMu)) :=
  if wr z5 < 8 then
    (fX10_areJoined w4 z5 μ).bind fun y13 =>
    (if wr y13 = 0 then
      (qLd μ 85 8 z5).bind fun x16 =>
      some x16
    else
      (qLd μ 85 8 z5).bind fun x17 =>
      (qLd μ 85 8 w4).bind fun x18 =>
      some (mn x17 (x18 + 1)) : Option (Int)).bind fun y15 =>
    (qSa μ 85 8 z5 y15).bind fun μ19 =>
    some (.inl ((z5 + 1), μ19))
  else
    some (.inr μ)
def bX10_way_57 (n : Nat) (w2 : Int) (w3 : Int) (z4 : Int) (μ : qMu) : Option ((Int × qMu) ⊕ (qMu)) :=
  if wr z4 < 8 then
    (lp (fun x : Int × qMu => bX10_way_67 n w2 w3 z4 x.1 x.2) n (0, μ)).bind fun y20 =>
    some (.inl ((z4 + 1), y20))
  else
    some (.inr μ)
def bX10_way_48 (n : Nat) (w2 : Int) (z3 : Int) (μ : qMu) : Option ((Int × qMu) ⊕ (qMu)) :=
  if wr z3 < 8 then
    (lp (fun x : Int × qMu => bX10_way_57 n w2 z3 x.1 x.2) n (0, μ)).bind fun y21 =>
    some (.inl ((z3 + 1), y21))
  else
    some (.inr μ)
def fX10_way (n : Nat) (p0 : Int) (p1 : Int) (μ : qMu) : Option (Int × qMu) :=
  (fX10_areVertices p0 p1 μ).bind fun y1 =>
  (fX10_good y1 μ).bind fun y2 =>
  if wr y2.1 = 0 then
    some (0, y2.2)
  else
    (lp (fun x : Int × qMu => bX10_way_17 n p0 p1 x.1 x.2) n (0, y2.2)).bind fun y9 =>
    (lp (fun x : Int × qMu => bX10_way_48 n p1 x.1 x.2) n (0, y9)).bind fun y22 =>
    (qLd y22 85 8 p1).bind fun x23 =>
    if wr x23 = 8 then
      some ((-1), y22)
    else
      (qLd y22 85 8 p1).bind fun x25 =>
      some (x25, y22)
def bX10_ordersDegrees_21 (n : Nat) (w1 : Int) (w2 : Int) (z3 : Int) (μ : qMu) : Option ((Int × qMu) ⊕ (Int × qMu)) :=
  if 0 < wr z3 then
    (qLd μ 86 8 (z3 - 1)).bind fun x5 =>
    if wr x5 < wr w2 then
      (qLd μ 86 8 (z3 - 1)).bind fun x7 =>
      (qSa μ 86 8 z3 x7).bind fun μ8 =>
      some (.inl ((z3 + (-1)), μ8))
    else
      some (.inr (z3, μ))
  else
    some (.inr (z3, μ))
def bX10_ordersDegrees_2 (n : Nat) (z1 : Int) (μ : qMu) : Option ((Int × qMu) ⊕ (qMu)) :=
  (qLd μ 79 130 0).bind fun x1 =>
  if wr z1 < wr x1 then
    (fX10_degreeOf n 2 z1 μ).bind fun y3 =>
    (lp (fun x : Int × qMu => bX10_ordersDegrees_21 n z1 y3 x.1 x.2) n (z1, μ)).bind fun y9 =>
    (qSa y9.2 86 8 y9.1 y3).bind fun μ10 =>
    some (.inl ((z1 + 1), μ10))
  else
    some (.inr μ)
def fX10_ordersDegrees (n : Nat) (μ : qMu) : Option (qMu) :=
  (lp (fun x : Int × qMu => bX10_ordersDegrees_2 n x.1 x.2) n (0, μ)).bind fun y11 =>
  some y11
def fX10_sorted (n : Nat) (p0 : Int) (μ : qMu) : Option (Int × qMu) :=
  (fX10_isVertex p0 μ).bind fun y1 =>
  (fX10_good y1 μ).bind fun y2 =>
  if wr y2.1 = 0 then
    some (0, y2.2)
  else
    (fX10_ordersDegrees n y2.2).bind fun y4 =>
    (qLd y4 86 8 p0).bind fun x5 =>
    some (x5, y4)
def bX10_slackOf_8 (n : Nat) (w1 : Int) (z2 : Int) (z3 : Int) (μ : qMu) : Option ((Int × Int) ⊕ (Int)) :=
  (qLd μ 79 130 0).bind fun x1 =>
  if wr z3 < wr x1 then
    (if wr z3 < wr w1 then
      (qLd μ 86 8 z3).bind fun x5 =>
      some (-x5)
    else
      (qLd μ 86 8 z3).bind fun x6 =>
      some (mn w1 x6) : Option (Int)).bind fun y4 =>
    some (.inl ((z2 + y4), (z3 + 1)))
  else
    some (.inr z2)
def fX10_slackOf (n : Nat) (p0 : Int) (μ : qMu) : Option (Int) :=
  (lp (fun x : Int × Int => bX10_slackOf_8 n p0 x.1 x.2 μ) n ((p0 * (p0 - 1)), 0)).bind fun y7 =>
  some y7
def fX10_slack (n : Nat) (p0 : Int) (μ : qMu) : Option (Int × qMu) :=
  (qLd μ 79 130 0).bind fun x1 =>
  (fX10_isIn p0 1 x1 μ).bind fun y2 =>
  (fX10_good y2 μ).bind fun y3 =>
  if wr y3.1 = 0 then
    some (0, y3.2)
  else
    (fX10_ordersDegrees n y3.2).bind fun y5 =>
    (fX10_slackOf n p0 y5).bind fun y6 =>
    some (y6, y5)
def bX10_isPossibleIn_43 (n : Nat) (z2 : Int) (z3 : Int) (μ : qMu) : Option ((Int × Int) ⊕ (Int)) :=
  (qLd μ 79 130 0).bind fun x7 =>
  if wr x7 < wr z3 then
    some (.inr z2)
  else
    (if wr z2 = 0 then
      some 0
    else
      (fX10_slackOf n z3 μ).bind fun y11 =>
      if wr y11 < 0 then
        some 0
      else
        some 1 : Option (Int)).bind fun y10 =>
    some (.inl (y10, (z3 + 1)))
def fX10_isPossibleIn (n : Nat) (p0 : Int) (μ : qMu) : Option (Int × qMu) :=
  (fX10_ordersDegrees n μ).bind fun y1 =>
  if wr p0 = 0 then
    some (1, y1)
  else
    if wr p0 = 1 then
      (qLd y1 86 8 0).bind fun x4 =>
      (fX10_edgesOf n 2 y1).bind fun y5 =>
      if wr (2 * y5) < wr (2 * x4) then
        some (0, y1)
      else
        some (1, y1)
    else
      (lp (fun x : Int × Int => bX10_isPossibleIn_43 n x.1 x.2 y1) n (1, 1)).bind fun y13 =>
      (qbl y13).bind fun x14 =>
      some (x14, y1)
def fX10_isPossible (n : Nat) (p0 : Int) (μ : qMu) : Option (Int × qMu) :=
  (fX10_isIn p0 0 2 μ).bind fun y1 =>
  (fX10_good y1 μ).bind fun y2 =>
  if wr y2.1 = 0 then
    some (0, y2.2)
  else
    (fX10_isPossibleIn n p0 y2.2).bind fun y4 =>
    if wr y4.1 = 0 then
      some (0, y4.2)
    else
      some (1, y4.2)
def fX10_meanDegree (n : Nat) (μ : qMu) : Option (UInt64 × qMu) :=
  (qPf μ 78 4 0).bind fun μ1 =>
  (fX10_edgesOf n 2 μ1).bind fun y2 =>
  (qLd μ1 79 130 0).bind fun x3 =>
  (ddv (i2d (2 * y2)) (i2d x3)).bind fun x4 =>
  some (x4, μ1)
def bX10_neediest_4 (n : Nat) (z1 : Int) (z2 : Int) (μ : qMu) : Option ((Int × Int) ⊕ (Int)) :=
  (qLd μ 79 130 0).bind fun x1 =>
  if wr z2 < wr x1 then
    (qLd μ 88 8 z2).bind fun x3 =>
    (if wr x3 = 0 then
      (qLd μ 87 8 z2).bind fun x6 =>
      (if wr z1 = (-1) then
        some 0
      else
        (qLd μ 87 8 z1).bind fun x9 =>
        some x9 : Option (Int)).bind fun y8 =>
      if wr y8 < wr x6 then
        some z2
      else
        some z1
    else
      some z1 : Option (Int)).bind fun y5 =>
    some (.inl (y5, (z2 + 1)))
  else
    some (.inr z1)
def fX10_neediest (n : Nat) (μ : qMu) : Option (Int) :=
  (lp (fun x : Int × Int => bX10_neediest_4 n x.1 x.2 μ) n ((-1), 0)).bind fun y11 =>
  some y11
def bX10_freesAll_2 (n : Nat) (z1 : Int) (μ : qMu) : Option ((Int × qMu) ⊕ (qMu)) :=
  if wr z1 < 8 then
    (qSa μ 88 8 z1 (qNr .boolean 0)).bind fun μ2 =>
    some (.inl ((z1 + 1), μ2))
  else
    some (.inr μ)
def fX10_freesAll (n : Nat) (μ : qMu) : Option (qMu) :=
  (lp (fun x : Int × qMu => bX10_freesAll_2 n x.1 x.2) n (0, μ)).bind fun y3 =>
  some y3
def bX10_joins_13 (n : Nat) (w1 : Int) (w2 : Int) (z3 : Int) (μ : qMu) : Option ((Int × qMu) ⊕ ((qMu) ⊕ (qMu))) :=
  if wr z3 < wr w2 then
    (fX10_neediest n μ).bind fun y4 =>
    if wr y4 = (-1) then
      some (.inr (.inr μ))
    else
      (qSa μ 88 8 y4 (qNr .boolean 1)).bind fun μ6 =>
      (fX10_adds 2 w1 y4 1 μ6).bind fun y7 =>
      (qLd y7 87 8 w1).bind fun x8 =>
      (qSa y7 87 8 w1 (x8 - 1)).bind fun μ9 =>
      (qLd μ9 87 8 y4).bind fun x10 =>
      (qSa μ9 87 8 y4 (x10 - 1)).bind fun μ11 =>
      some (.inl ((z3 + 1), μ11))
  else
    some (.inr (.inl μ))
def fX10_joins (n : Nat) (p0 : Int) (p1 : Int) (μ : qMu) : Option (qMu) :=
  (fX10_freesAll n μ).bind fun y1 =>
  (qSa y1 88 8 p0 (qNr .boolean 1)).bind fun μ2 =>
  (lp (fun x : Int × qMu => bX10_joins_13 n p0 p1 x.1 x.2) n (0, μ2)).bind fun y12 =>
  Sum.elim (fun b13 =>
    some b13)
    (fun r14 => some r14) y12
def bX10_realises_2 (n : Nat) (w1 : Int) (z2 : Int) (μ : qMu) : Option ((Int × qMu) ⊕ (qMu)) :=
  (qLd μ 79 130 0).bind fun x1 =>
  if wr z2 < wr x1 then
    (fX10_degreeOf n 2 z2 μ).bind fun y3 =>
    (qSa μ 87 8 z2 y3).bind fun μ4 =>
    some (.inl ((z2 + 1), μ4))
  else
    some (.inr μ)
def bX10_realises_53 (n : Nat) (w1 : Int) (z2 : Int) (μ : qMu) : Option ((Int × qMu) ⊕ (qMu)) :=
  if wr z2 = (-1) then
    some (.inr μ)
  else
    (if wr w1 = 1 then
      some 1
    else
      (qLd μ 87 8 z2).bind fun x14 =>
      some x14 : Option (Int)).bind fun y13 =>
    (fX10_joins n z2 y13 μ).bind fun y15 =>
    (fX10_freesAll n y15).bind fun y16 =>
    (fX10_neediest n y16).bind fun y17 =>
    some (.inl (y17, y16))
def fX10_realises (n : Nat) (p0 : Int) (μ : qMu) : Option (qMu) :=
  (lp (fun x : Int × qMu => bX10_realises_2 n p0 x.1 x.2) n (0, μ)).bind fun y5 =>
  if wr p0 = 0 then
    (fX10_realisesByLoops n y5).bind fun y7 =>
    some y7
  else
    (fX10_empties n 2 y5).bind fun y8 =>
    (fX10_freesAll n y8).bind fun y9 =>
    (fX10_neediest n y9).bind fun y10 =>
    (lp (fun x : Int × qMu => bX10_realises_53 n p0 x.1 x.2) n (y10, y9)).bind fun y18 =>
    some y18
def fX10_isSamePair (p0 : Int) (p1 : Int) (p2 : Int) (p3 : Int) (μ : qMu) : Option (Int) :=
  if wr p0 = wr p2 then
    if wr p1 = wr p3 then
      some 1
    else
      if wr p0 = wr p3 then
        if wr p1 = wr p2 then
          some 1
        else
          some 0
      else
        some 0
  else
    if wr p0 = wr p3 then
      if wr p1 = wr p2 then
        some 1
      else
        some 0
    else
      some 0
def fX10_wouldDouble (p0 : Int) (p1 : Int) (p2 : Int) (p3 : Int) (μ : qMu) : Option (Int × qMu) :=
  (fX10_adds 2 p0 p1 (-1) μ).bind fun y1 =>
  (fX10_adds 2 p2 p3 (-1) y1).bind fun y2 =>
  (fX10_many 2 p0 p2 y2).bind fun y3 =>
  (if 0 < wr y3 then
    some 1
  else
    (fX10_many 2 p1 p3 y2).bind fun y6 =>
    if 0 < wr y6 then
      some 1
    else
      (fX10_isSamePair p0 p2 p1 p3 y2).bind fun y8 =>
      if wr y8 = 0 then
        some 0
      else
        some 1 : Option (Int)).bind fun y5 =>
  (fX10_adds 2 p0 p1 1 y2).bind fun y10 =>
  (fX10_adds 2 p2 p3 1 y10).bind fun y11 =>
  (qbl y5).bind fun x12 =>
  some (x12, y11)
def fX10_reasonBy (p0 : Int) (p1 : Int) (p2 : Int) (p3 : Int) (p4 : Int) (μ : qMu) : Option (Int × qMu) :=
  (fX10_many 2 p1 p2 μ).bind fun y1 =>
  if wr y1 = 0 then
    some (1, μ)
  else
    (fX10_many 2 p3 p4 μ).bind fun y3 =>
    (fX10_isSamePair p1 p2 p3 p4 μ).bind fun y4 =>
    if wr (y3 - (if wr y4 = 0 then 0 else 1)) < 1 then
      some (2, μ)
    else
      if wr p1 = wr p4 then
        some (3, μ)
      else
        if wr p2 = wr p3 then
          some (3, μ)
        else
          if 0 < wr p0 then
            if wr p1 = wr p3 then
              some (4, μ)
            else
              if wr p2 = wr p4 then
                some (4, μ)
              else
                if wr p0 = 2 then
                  (fX10_wouldDouble p1 p2 p3 p4 μ).bind fun y15 =>
                  if wr y15.1 = 0 then
                    some (0, y15.2)
                  else
                    some (5, y15.2)
                else
                  some (0, μ)
          else
            if wr p0 = 2 then
              (fX10_wouldDouble p1 p2 p3 p4 μ).bind fun y18 =>
              if wr y18.1 = 0 then
                some (0, y18.2)
              else
                some (5, y18.2)
            else
              some (0, μ)
def fX10_switches (p0 : Int) (p1 : Int) (p2 : Int) (p3 : Int) (μ : qMu) : Option (qMu) :=
  (fX10_adds 2 p0 p1 (-1) μ).bind fun y1 =>
  (fX10_adds 2 p2 p3 (-1) y1).bind fun y2 =>
  (fX10_adds 2 p0 p2 1 y2).bind fun y3 =>
  (fX10_adds 2 p1 p3 1 y3).bind fun y4 =>
  some y4
def fX10_takesBack (p0 : Int) (p1 : Int) (p2 : Int) (p3 : Int) (μ : qMu) : Option (qMu) :=
  (fX10_adds 2 p0 p2 (-1) μ).bind fun y1 =>
  (fX10_adds 2 p1 p3 (-1) y1).bind fun y2 =>
  (fX10_adds 2 p0 p1 1 y2).bind fun y3 =>
  (fX10_adds 2 p2 p3 1 y3).bind fun y4 =>
  some y4
def fX10_codeOf (p0 : Int) (p1 : Int) (p2 : Int) (p3 : Int) (μ : qMu) : Option (Int) :=
  some ((((((p0 * 8) + p1) * 8) + p2) * 8) + p3)
def fX10_partOf (p0 : Int) (p1 : Int) (μ : qMu) : Option (Int) :=
  some (ian (ishr p0 (9 - (3 * p1))) 7)
def fX10_switchesBy (p0 : Int) (μ : qMu) : Option (qMu) :=
  (fX10_partOf p0 0 μ).bind fun y1 =>
  (fX10_partOf p0 1 μ).bind fun y2 =>
  (fX10_partOf p0 2 μ).bind fun y3 =>
  (fX10_partOf p0 3 μ).bind fun y4 =>
  (fX10_switches y1 y2 y3 y4 μ).bind fun y5 =>
  some y5
def fX10_takesBackBy (p0 : Int) (μ : qMu) : Option (qMu) :=
  (fX10_partOf p0 0 μ).bind fun y1 =>
  (fX10_partOf p0 1 μ).bind fun y2 =>
  (fX10_partOf p0 2 μ).bind fun y3 =>
  (fX10_partOf p0 3 μ).bind fun y4 =>
  (fX10_takesBack y1 y2 y3 y4 μ).bind fun y5 =>
  some y5
def fX10_isFirstOf (p0 : Int) (p1 : Int) (p2 : Int) (p3 : Int) (μ : qMu) : Option (Int) :=
  (fX10_codeOf p0 p1 p2 p3 μ).bind fun y1 =>
  (fX10_codeOf p1 p0 p3 p2 μ).bind fun y2 =>
  if wr y2 < wr y1 then
    some 0
  else
    (fX10_codeOf p2 p3 p0 p1 μ).bind fun y4 =>
    if wr y4 < wr y1 then
      some 0
    else
      (fX10_codeOf p3 p2 p1 p0 μ).bind fun y6 =>
      if wr y6 < wr y1 then
        some 0
      else
        some 1
def bX10_laysList_4 (n : Nat) (w1 : Int) (z2 : Int) (z3 : Int) (μ : qMu) : Option ((Int × Int × qMu) ⊕ (Int × qMu)) :=
  if wr z3 < 4096 then
    (fX10_partOf z3 0 μ).bind fun y2 =>
    (fX10_partOf z3 1 μ).bind fun y3 =>
    (fX10_partOf z3 2 μ).bind fun y4 =>
    (fX10_partOf z3 3 μ).bind fun y5 =>
    (fX10_isFirstOf y2 y3 y4 y5 μ).bind fun y6 =>
    (if wr y6 = 0 then
      some (z2, μ)
    else
      (fX10_reasonBy w1 y2 y3 y4 y5 μ).bind fun y9 =>
      if wr y9.1 = 0 then
        (qSa y9.2 89 4096 z2 z3).bind fun μ11 =>
        some ((z2 + 1), μ11)
      else
        some (z2, y9.2) : Option (Int × qMu)).bind fun y8 =>
    some (.inl (y8.1, (z3 + 1), y8.2))
  else
    some (.inr (z2, μ))
def fX10_laysList (n : Nat) (p0 : Int) (μ : qMu) : Option (Int × qMu) :=
  (lp (fun x : Int × Int × qMu => bX10_laysList_4 n p0 x.1 x.2.1 x.2.2) n (0, 0, μ)).bind fun y12 =>
  some (y12.1, y12.2)
def fX10_reason (p0 : Int) (p1 : Int) (p2 : Int) (p3 : Int) (μ : qMu) : Option (Int × qMu) :=
  (fX10_areVertices p0 p1 μ).bind fun y1 =>
  (if wr y1 = 0 then
    some 0
  else
    (fX10_areVertices p2 p3 μ).bind fun y4 =>
    if wr y4 = 0 then
      some 0
    else
      some 1 : Option (Int)).bind fun y3 =>
  (fX10_good y3 μ).bind fun y6 =>
  if wr y6.1 = 0 then
    some (0, y6.2)
  else
    (qLd y6.2 79 130 1).bind fun x8 =>
    (fX10_reasonBy x8 p0 p1 p2 p3 y6.2).bind fun y9 =>
    some (y9.1, y9.2)
def fX10_switches_ (n : Nat) (μ : qMu) : Option (Int × qMu) :=
  (qPf μ 78 4 0).bind fun μ1 =>
  (qLd μ1 79 130 1).bind fun x2 =>
  (fX10_laysList n x2 μ1).bind fun y3 =>
  some (y3.1, y3.2)
def fX10_switchAt (n : Nat) (p0 : Int) (p1 : Int) (μ : qMu) : Option (Int × qMu) :=
  (qLd μ 79 130 1).bind fun x1 =>
  (fX10_laysList n x1 μ).bind fun y2 =>
  (fX10_isIn p0 0 (y2.1 - 1) y2.2).bind fun y3 =>
  (fX10_isIn p1 0 3 y2.2).bind fun y4 =>
  (fX10_good_ y3 y4 y2.2).bind fun y5 =>
  if wr y5.1 = 0 then
    some (0, y5.2)
  else
    (qLd y5.2 89 4096 p0).bind fun x7 =>
    (fX10_partOf x7 p1 y5.2).bind fun y8 =>
    some (y8, y5.2)
def fX10_canSwitch (p0 : Int) (p1 : Int) (p2 : Int) (p3 : Int) (μ : qMu) : Option (Int × qMu) :=
  (fX10_areVertices p0 p1 μ).bind fun y1 =>
  (if wr y1 = 0 then
    some 0
  else
    (fX10_areVertices p2 p3 μ).bind fun y4 =>
    if wr y4 = 0 then
      some 0
    else
      some 1 : Option (Int)).bind fun y3 =>
  (if wr y3 = 0 then
    some (0, μ)
  else
    (qLd μ 79 130 1).bind fun x8 =>
    (fX10_reasonBy x8 p0 p1 p2 p3 μ).bind fun y9 =>
    if wr y9.1 = 0 then
      some (1, y9.2)
    else
      some (0, y9.2) : Option (Int × qMu)).bind fun y7 =>
  (fX10_good_ y3 y7.1 y7.2).bind fun y11 =>
  (qbl y11.1).bind fun x12 =>
  some (x12, y11.2)
def fX10_componentsBehind (n : Nat) (p0 : Int) (p1 : Int) (p2 : Int) (p3 : Int) (μ : qMu) : Option (Int × qMu) :=
  (fX10_canSwitch p0 p1 p2 p3 μ).bind fun y1 =>
  if wr y1.1 = 0 then
    some (0, y1.2)
  else
    (fX10_switches p0 p1 p2 p3 y1.2).bind fun y3 =>
    (fX10_laysParts n y3).bind fun y4 =>
    (fX10_takesBack p0 p1 p2 p3 y4.2).bind fun y5 =>
    some (y4.1, y5)
def bX10_differenceNow_12 (n : Nat) (w2 : Int) (z1 : Int) (z3 : Int) (μ : qMu) : Option ((Int × Int) ⊕ (Int)) :=
  if wr z3 < 8 then
    (fX10_many 2 w2 z3 μ).bind fun y3 =>
    (fX10_many 66 w2 z3 μ).bind fun y4 =>
    some (.inl ((z1 + (mx 0 (y3 - y4))), (z3 + 1)))
  else
    some (.inr z1)
def bX10_differenceNow_4 (n : Nat) (z1 : Int) (z2 : Int) (μ : qMu) : Option ((Int × Int) ⊕ (Int)) :=
  if wr z2 < 8 then
    (lp (fun x : Int × Int => bX10_differenceNow_12 n z2 x.1 x.2 μ) n (z1, z2)).bind fun y5 =>
    some (.inl (y5, (z2 + 1)))
  else
    some (.inr z1)
def fX10_differenceNow (n : Nat) (μ : qMu) : Option (Int) :=
  (lp (fun x : Int × Int => bX10_differenceNow_4 n x.1 x.2 μ) n (0, 0)).bind fun y6 =>
  some y6
def bX10_nearest_36 (n : Nat) (w1 : Int) (z2 : Int) (z3 : Int) (z4 : Int) (μ : qMu) : Option ((Int × Int × Int × qMu) ⊕ (Int × qMu)) :=
  if wr z4 < wr w1 then
    (qLd μ 89 4096 z4).bind fun x9 =>
    (fX10_switchesBy x9 μ).bind fun y10 =>
    (fX10_differenceNow n y10).bind fun y11 =>
    (qLd y10 89 4096 z4).bind fun x12 =>
    (fX10_takesBackBy x12 y10).bind fun y13 =>
    some (.inl ((if wr z4 = 0 then z4 else if wr y11 < wr z3 then z4 else z2), (if wr z4 = 0 then y11 else if wr y11 < wr z3 then y11 else z3), (z4 + 1), y13))
  else
    some (.inr (z2, μ))
def fX10_nearest (n : Nat) (μ : qMu) : Option (Int × qMu) :=
  (qLd μ 79 130 1).bind fun x1 =>
  (fX10_laysList n x1 μ).bind fun y2 =>
  (fX10_good (if 0 < wr y2.1 then 1 else 0) y2.2).bind fun y6 =>
  if wr y6.1 = 0 then
    some (0, y6.2)
  else
    (lp (fun x : Int × Int × Int × qMu => bX10_nearest_36 n y2.1 x.1 x.2.1 x.2.2.1 x.2.2.2) n (0, 0, 0, y6.2)).bind fun y19 =>
    some (y19.1, y19.2)
def bX10_areAlike_4 (n : Nat) (z1 : Int) (z2 : Int) (μ : qMu) : Option ((Int × Int) ⊕ (Int)) :=
  if wr z2 < 8 then
    (if wr z1 = 0 then
      some 0
    else
      (fX10_degreeOf n 2 z2 μ).bind fun y4 =>
      (fX10_degreeOf n 66 z2 μ).bind fun y5 =>
      if wr y4 = wr y5 then
        some 1
      else
        some 0 : Option (Int)).bind fun y3 =>
    some (.inl (y3, (z2 + 1)))
  else
    some (.inr z1)
def fX10_areAlike (n : Nat) (μ : qMu) : Option (Int) :=
  (lp (fun x : Int × Int => bX10_areAlike_4 n x.1 x.2 μ) n (1, 0)).bind fun y7 =>
  (qbl y7).bind fun x8 =>
  some x8
def fX10_isAlike (n : Nat) (μ : qMu) : Option (Int × qMu) :=
  (qPf μ 78 4 0).bind fun μ1 =>
  (fX10_areAlike n μ1).bind fun y2 =>
  (qbl y2).bind fun x3 =>
  some (x3, μ1)
def fX10_difference (n : Nat) (μ : qMu) : Option (Int × qMu) :=
  (qPf μ 78 4 0).bind fun μ1 =>
  (fX10_differenceNow n μ1).bind fun y2 =>
  some (y2, μ1)
def fX10_beyond (p0 : Int) (p1 : Int) (μ : qMu) : Option (Int) :=
  (fX10_many 2 p0 p1 μ).bind fun y1 =>
  (fX10_many 66 p0 p1 μ).bind fun y2 =>
  some (y1 - y2)
def bX10_firstLacking_10 (n : Nat) (w1 : Int) (z2 : Int) (μ : qMu) : Option ((Int) ⊕ ((Unit) ⊕ (Int))) :=
  if wr z2 < 8 then
    (fX10_beyond w1 z2 μ).bind fun y3 =>
    if wr y3 < 0 then
      some (.inr (.inr ((8 * w1) + z2)))
    else
      some (.inl (z2 + 1))
  else
    some (.inr (.inl ()))
def bX10_firstLacking_2 (n : Nat) (z1 : Int) (μ : qMu) : Option ((Int) ⊕ ((Unit) ⊕ (Int))) :=
  if wr z1 < 8 then
    (lp (fun x : Int => bX10_firstLacking_10 n z1 x μ) n z1).bind fun y5 =>
    Sum.elim (fun b6 =>
      some (.inl (z1 + 1)))
      (fun r7 => some (.inr (.inr r7))) y5
  else
    some (.inr (.inl ()))
def fX10_firstLacking (n : Nat) (μ : qMu) : Option (Int) :=
  (lp (fun x : Int => bX10_firstLacking_2 n x μ) n 0).bind fun y8 =>
  Sum.elim (fun b9 =>
    some (-1))
    (fun r10 => some r10) y8
def bX10_firstBeyond_3 (n : Nat) (w1 : Int) (w2 : Int) (w3 : Int) (z4 : Int) (μ : qMu) : Option ((Int) ⊕ ((Unit) ⊕ (Int))) :=
  if wr z4 < 8 then
    (fX10_beyond w1 z4 μ).bind fun y2 =>
    if wr y2 < wr (if wr z4 = wr w2 then w3 else 1) then
      some (.inl (z4 + 1))
    else
      some (.inr (.inr z4))
  else
    some (.inr (.inl ()))
def fX10_firstBeyond (n : Nat) (p0 : Int) (p1 : Int) (p2 : Int) (μ : qMu) : Option (Int) :=
  (lp (fun x : Int => bX10_firstBeyond_3 n p0 p1 p2 x μ) n 0).bind fun y7 =>
  Sum.elim (fun b8 =>
    some (-1))
    (fun r9 => some r9) y7
def bX10_goesPath_7 (n : Nat) (z1 : Int) (z2 : Int) (μ : qMu) : Option ((Int × Int × qMu) ⊕ (Int × qMu)) :=
  if wr z2 = (-1) then
    some (.inr (z1, μ))
  else
    (fX10_firstBeyond n (idv z2 8) (-1) 1 μ).bind fun y3 =>
    (fX10_firstBeyond n (irm z2 8) (if wr (idv z2 8) = wr (irm z2 8) then y3 else (-1)) 2 μ).bind fun y7 =>
    (fX10_codeOf (idv z2 8) y3 (irm z2 8) y7 μ).bind fun y8 =>
    (qSa μ 90 64 z1 y8).bind fun μ9 =>
    (fX10_switches (idv z2 8) y3 (irm z2 8) y7 μ9).bind fun y10 =>
    (fX10_firstLacking n y10).bind fun y11 =>
    some (.inl ((z1 + 1), y11, y10))
def fX10_goesPath (n : Nat) (μ : qMu) : Option (Int × qMu) :=
  (fX10_firstLacking n μ).bind fun y1 =>
  (lp (fun x : Int × Int × qMu => bX10_goesPath_7 n x.1 x.2.1 x.2.2) n (0, y1, μ)).bind fun y12 =>
  some (y12.1, y12.2)
def fX10_laysPath (n : Nat) (μ : qMu) : Option (Int × qMu) :=
  (fX10_putAside n μ).bind fun y1 =>
  (fX10_goesPath n y1).bind fun y2 =>
  (fX10_layBack n y2.2).bind fun y3 =>
  some (y2.1, y3)
def fX10_pathLength (n : Nat) (μ : qMu) : Option (Int × qMu) :=
  (fX10_areAlike n μ).bind fun y1 =>
  (fX10_good y1 μ).bind fun y2 =>
  if wr y2.1 = 0 then
    some (0, y2.2)
  else
    (fX10_laysPath n y2.2).bind fun y4 =>
    some (y4.1, y4.2)
def fX10_path (n : Nat) (p0 : Int) (p1 : Int) (μ : qMu) : Option (Int × qMu) :=
  (fX10_areAlike n μ).bind fun y1 =>
  (if wr y1 = 0 then
    some (0, μ)
  else
    (fX10_laysPath n μ).bind fun y4 =>
    some (y4.1, y4.2) : Option (Int × qMu)).bind fun y3 =>
  (fX10_isIn p0 0 (y3.1 - 1) y3.2).bind fun y5 =>
  (fX10_isIn p1 0 3 y3.2).bind fun y6 =>
  (fX10_good__ y1 y5 y6 y3.2).bind fun y7 =>
  if wr y7.1 = 0 then
    some (0, y7.2)
  else
    (qLd y7.2 90 64 p0).bind fun x9 =>
    (fX10_partOf x9 p1 y7.2).bind fun y10 =>
    some (y10, y7.2)
def bX10_isOneAway_12 (n : Nat) (z1 : Int) (μ : qMu) : Option ((Int × qMu) ⊕ ((qMu) ⊕ (Int × qMu))) :=
  if wr z1 < 4096 then
    (fX10_partOf z1 0 μ).bind fun y4 =>
    (fX10_partOf z1 1 μ).bind fun y5 =>
    (fX10_partOf z1 2 μ).bind fun y6 =>
    (fX10_partOf z1 3 μ).bind fun y7 =>
    (fX10_isFirstOf y4 y5 y6 y7 μ).bind fun y8 =>
    if wr y8 = 0 then
      some (.inl ((z1 + 1), μ))
    else
      (fX10_reasonBy 0 y4 y5 y6 y7 μ).bind fun y10 =>
      if wr y10.1 = 0 then
        (fX10_switches y4 y5 y6 y7 y10.2).bind fun y12 =>
        (fX10_differenceNow n y12).bind fun y13 =>
        (fX10_takesBack y4 y5 y6 y7 y12).bind fun y17 =>
        if wr (if wr y13 = 0 then 1 else 0) = 0 then
          some (.inl ((z1 + 1), y17))
        else
          some (.inr (.inr (1, y17)))
      else
        some (.inl ((z1 + 1), y10.2))
  else
    some (.inr (.inl μ))
def fX10_isOneAway (n : Nat) (μ : qMu) : Option (Int × qMu) :=
  (fX10_differenceNow n μ).bind fun y1 =>
  if 2 < wr y1 then
    some (0, μ)
  else
    (lp (fun x : Int × qMu => bX10_isOneAway_12 n x.1 x.2) n (0, μ)).bind fun y19 =>
    Sum.elim (fun b20 =>
      some (0, b20))
      (fun r21 => some r21) y19
def bX10_isTwoAway_22 (n : Nat) (w1 : Int) (z2 : Int) (z3 : Int) (μ : qMu) : Option ((Int × Int × qMu) ⊕ (Int × qMu)) :=
  if wr z3 < wr w1 then
    if wr z2 = 0 then
      (qLd μ 89 4096 z3).bind fun x7 =>
      (fX10_switchesBy x7 μ).bind fun y8 =>
      (fX10_isOneAway n y8).bind fun y9 =>
      (qLd y9.2 89 4096 z3).bind fun x10 =>
      (fX10_takesBackBy x10 y9.2).bind fun y11 =>
      some (.inl (y9.1, (z3 + 1), y11))
    else
      some (.inr (z2, μ))
  else
    some (.inr (z2, μ))
def fX10_isTwoAway (n : Nat) (μ : qMu) : Option (Int × qMu) :=
  (fX10_differenceNow n μ).bind fun y1 =>
  (if 4 < wr y1 then
    some (0, μ)
  else
    (fX10_laysList n 0 μ).bind fun y4 =>
    some (y4.1, y4.2) : Option (Int × qMu)).bind fun y3 =>
  (lp (fun x : Int × Int × qMu => bX10_isTwoAway_22 n y3.1 x.1 x.2.1 x.2.2) n (0, 0, y3.2)).bind fun y12 =>
  (qbl y12.1).bind fun x13 =>
  some (x13, y12.2)
def fX10_distance (n : Nat) (μ : qMu) : Option (Int × qMu) :=
  (fX10_areAlike n μ).bind fun y1 =>
  (fX10_good y1 μ).bind fun y2 =>
  if wr y2.1 = 0 then
    some (0, y2.2)
  else
    (fX10_differenceNow n y2.2).bind fun y4 =>
    if wr y4 = 0 then
      some (0, y2.2)
    else
      (fX10_isOneAway n y2.2).bind fun y6 =>
      if wr y6.1 = 0 then
        (fX10_isTwoAway n y6.2).bind fun y8 =>
        if wr y8.1 = 0 then
          some (3, y8.2)
        else
          some (2, y8.2)
      else
        some (1, y6.2)
def fX10_addEdge (n : Nat) (p0 : Int) (p1 : Int) (μ : qMu) : Option (Int × qMu) :=
  (fX10_areVertices p0 p1 μ).bind fun y1 =>
  (fX10_edgesOf n 2 μ).bind fun y2 =>
  (fX10_good_ y1 (if wr y2 < 16 then 1 else 0) μ).bind fun y6 =>
  if wr y6.1 = 0 then
    some (0, y6.2)
  else
    (fX10_remember n y6.2).bind fun y8 =>
    (fX10_adds 2 p0 p1 1 y8).bind fun y9 =>
    (fX10_many 2 p0 p1 y9).bind fun y10 =>
    some (y10, y9)
def fX10_removeEdge (n : Nat) (p0 : Int) (p1 : Int) (μ : qMu) : Option (Int × qMu) :=
  (fX10_areVertices p0 p1 μ).bind fun y1 =>
  (if wr y1 = 0 then
    some 0
  else
    (fX10_many 2 p0 p1 μ).bind fun y4 =>
    if 0 < wr y4 then
      some 1
    else
      some 0 : Option (Int)).bind fun y3 =>
  (fX10_good_ y1 y3 μ).bind fun y6 =>
  if wr y6.1 = 0 then
    some (0, y6.2)
  else
    (fX10_remember n y6.2).bind fun y8 =>
    (fX10_adds 2 p0 p1 (-1) y8).bind fun y9 =>
    (fX10_many 2 p0 p1 y9).bind fun y10 =>
    some (y10, y9)
def fX10_switchEdges (n : Nat) (p0 : Int) (p1 : Int) (p2 : Int) (p3 : Int) (μ : qMu) : Option (Int × qMu) :=
  (fX10_canSwitch p0 p1 p2 p3 μ).bind fun y1 =>
  if wr y1.1 = 0 then
    some (0, y1.2)
  else
    (fX10_remember n y1.2).bind fun y3 =>
    (fX10_switches p0 p1 p2 p3 y3).bind fun y4 =>
    (fX10_defectsNow n y4).bind fun y5 =>
    some (y5, y4)
def fX10_realise (n : Nat) (p0 : Int) (μ : qMu) : Option (Int × qMu) :=
  (fX10_isIn p0 0 2 μ).bind fun y1 =>
  (fX10_isPossibleIn n p0 μ).bind fun y2 =>
  (fX10_good_ y1 y2.1 y2.2).bind fun y3 =>
  if wr y3.1 = 0 then
    some (0, y3.2)
  else
    (fX10_remember n y3.2).bind fun y5 =>
    (fX10_realises n p0 y5).bind fun y6 =>
    (fX10_defectsNow n y6).bind fun y7 =>
    some (y7, y6)
def bX10_follow_31 (n : Nat) (w1 : Int) (w2 : Int) (z3 : Int) (μ : qMu) : Option ((Int × qMu) ⊕ (qMu)) :=
  if wr z3 < wr (mn w1 w2) then
    (qLd μ 90 64 z3).bind fun x8 =>
    (fX10_switchesBy x8 μ).bind fun y9 =>
    some (.inl ((z3 + 1), y9))
  else
    some (.inr μ)
def fX10_follow (n : Nat) (p0 : Int) (μ : qMu) : Option (Int × qMu) :=
  (fX10_isIn p0 0 16 μ).bind fun y1 =>
  (fX10_areAlike n μ).bind fun y2 =>
  (fX10_good_ y1 y2 μ).bind fun y3 =>
  if wr y3.1 = 0 then
    some (0, y3.2)
  else
    (fX10_remember n y3.2).bind fun y5 =>
    (fX10_laysPath n y5).bind fun y6 =>
    (lp (fun x : Int × qMu => bX10_follow_31 n p0 y6.1 x.1 x.2) n (0, y6.2)).bind fun y10 =>
    (fX10_differenceNow n y10).bind fun y11 =>
    some (y11, y10)
def bX10_connecting_18 (n : Nat) (w1 : Int) (w2 : Int) (z3 : Int) (μ : qMu) : Option ((Int × qMu) ⊕ ((qMu) ⊕ (Int × qMu))) :=
  if wr z3 < wr w2 then
    (qLd μ 89 4096 z3).bind fun x5 =>
    (fX10_switchesBy x5 μ).bind fun y6 =>
    (fX10_partsWithEdges n y6).bind fun y7 =>
    (qLd y7.2 89 4096 z3).bind fun x11 =>
    (fX10_takesBackBy x11 y7.2).bind fun y12 =>
    if wr (if wr y7.1 < wr w1 then 1 else 0) = 0 then
      some (.inl ((z3 + 1), y12))
    else
      (qLd y12 89 4096 z3).bind fun x14 =>
      some (.inr (.inr (x14, y12)))
  else
    some (.inr (.inl μ))
def fX10_connecting (n : Nat) (μ : qMu) : Option (Int × qMu) :=
  (fX10_partsWithEdges n μ).bind fun y1 =>
  (qLd y1.2 79 130 1).bind fun x2 =>
  (fX10_laysList n x2 y1.2).bind fun y3 =>
  (lp (fun x : Int × qMu => bX10_connecting_18 n y1.1 y3.1 x.1 x.2) n (0, y3.2)).bind fun y15 =>
  Sum.elim (fun b16 =>
    some ((-1), b16))
    (fun r17 => some r17) y15
def bX10_connect_14 (n : Nat) (z1 : Int) (μ : qMu) : Option ((Int × qMu) ⊕ (qMu)) :=
  if wr z1 = (-1) then
    some (.inr μ)
  else
    (fX10_switchesBy z1 μ).bind fun y5 =>
    (fX10_connecting n y5).bind fun y6 =>
    some (.inl (y6.1, y6.2))
def fX10_connect (n : Nat) (μ : qMu) : Option (Int × qMu) :=
  (qPf μ 78 4 0).bind fun μ1 =>
  (fX10_remember n μ1).bind fun y2 =>
  (fX10_connecting n y2).bind fun y3 =>
  (lp (fun x : Int × qMu => bX10_connect_14 n x.1 x.2) n (y3.1, y3.2)).bind fun y7 =>
  (fX10_partsWithEdges n y7).bind fun y8 =>
  some (y8.1, y8.2)
def bX10_simplifying_16 (n : Nat) (w3 : Int) (z1 : Int) (z2 : Int) (z4 : Int) (μ : qMu) : Option ((Int × Int × Int × qMu) ⊕ (Int × qMu)) :=
  if wr z4 < wr w3 then
    (qLd μ 89 4096 z4).bind fun x4 =>
    (fX10_switchesBy x4 μ).bind fun y5 =>
    (fX10_defectsNow n y5).bind fun y6 =>
    (qLd y5 89 4096 z4).bind fun x7 =>
    (fX10_takesBackBy x7 y5).bind fun y8 =>
    (if wr y6 < wr z1 then
      (qLd y8 89 4096 z4).bind fun x11 =>
      some (y6, x11)
    else
      some (z1, z2) : Option (Int × Int)).bind fun y10 =>
    some (.inl (y10.1, y10.2, (z4 + 1), y8))
  else
    some (.inr (z2, μ))
def fX10_simplifying (n : Nat) (μ : qMu) : Option (Int × qMu) :=
  (fX10_defectsNow n μ).bind fun y1 =>
  (fX10_laysList n 0 μ).bind fun y2 =>
  (lp (fun x : Int × Int × Int × qMu => bX10_simplifying_16 n y2.1 x.1 x.2.1 x.2.2.1 x.2.2.2) n (y1, (-1), 0, y2.2)).bind fun y12 =>
  some (y12.1, y12.2)
def bX10_simplify_14 (n : Nat) (z1 : Int) (μ : qMu) : Option ((Int × qMu) ⊕ (qMu)) :=
  if wr z1 = (-1) then
    some (.inr μ)
  else
    (fX10_switchesBy z1 μ).bind fun y5 =>
    (fX10_simplifying n y5).bind fun y6 =>
    some (.inl (y6.1, y6.2))
def fX10_simplify (n : Nat) (μ : qMu) : Option (Int × qMu) :=
  (qPf μ 78 4 0).bind fun μ1 =>
  (fX10_remember n μ1).bind fun y2 =>
  (fX10_simplifying n y2).bind fun y3 =>
  (lp (fun x : Int × qMu => bX10_simplify_14 n x.1 x.2) n (y3.1, y3.2)).bind fun y7 =>
  (fX10_defectsNow n y7).bind fun y8 =>
  some (y8, y7)
def bX10_exchange_11 (n : Nat) (z1 : Int) (μ : qMu) : Option ((Int × qMu) ⊕ (qMu)) :=
  if wr z1 < 64 then
    (qLd μ 79 130 (2 + z1)).bind fun x4 =>
    (qLd μ 79 130 (66 + z1)).bind fun x5 =>
    (qSa μ 79 130 (2 + z1) x5).bind fun μ6 =>
    (qSa μ6 79 130 (66 + z1) x4).bind fun μ7 =>
    some (.inl ((z1 + 1), μ7))
  else
    some (.inr μ)
def fX10_exchange (n : Nat) (μ : qMu) : Option (Int × qMu) :=
  (qPf μ 78 4 0).bind fun μ1 =>
  (fX10_remember n μ1).bind fun y2 =>
  (lp (fun x : Int × qMu => bX10_exchange_11 n x.1 x.2) n (0, y2)).bind fun y8 =>
  (fX10_differenceNow n y8).bind fun y9 =>
  some (y9, y8)
def bX10_copyToTarget_16 (n : Nat) (w1 : Int) (z2 : Int) (μ : qMu) : Option ((Int × qMu) ⊕ (qMu)) :=
  if wr z2 < 64 then
    (qLd μ 79 130 (2 + z2)).bind fun x5 =>
    (qSa μ 79 130 (66 + z2) x5).bind fun μ6 =>
    some (.inl ((z2 + 1), μ6))
  else
    some (.inr μ)
def fX10_copyToTarget (n : Nat) (μ : qMu) : Option (Int × qMu) :=
  (qPf μ 78 4 0).bind fun μ1 =>
  (fX10_remember n μ1).bind fun y2 =>
  (fX10_differenceNow n y2).bind fun y3 =>
  (lp (fun x : Int × qMu => bX10_copyToTarget_16 n y3 x.1 x.2) n (0, y2)).bind fun y7 =>
  some (y3, y7)
def fX10_setMode (n : Nat) (p0 : Int) (μ : qMu) : Option (Int × qMu) :=
  (fX10_isIn p0 0 2 μ).bind fun y1 =>
  (fX10_good y1 μ).bind fun y2 =>
  if wr y2.1 = 0 then
    some (0, y2.2)
  else
    (fX10_remember n y2.2).bind fun y4 =>
    (qLd y4 79 130 1).bind fun x5 =>
    (qSa y4 79 130 1 p0).bind fun μ6 =>
    some (x5, μ6)
def fX10_says (p0 : Int) (μ : qMu) : Option (qMu) :=
  (qSa μ 91 160 (rd μ 78 26) p0).bind fun μ1 =>
  (qPf μ1 78 26 ((rd μ1 78 26) + 1)).bind fun μ2 =>
  some μ2
def fX10_saysNumber : Nat → Int → qMu → Option qMu
  | 0, _, _ => none
  | k + 1, p0, μ =>
    (if 9 < wr p0 then
      (fX10_saysNumber k (idv p0 10) μ).bind fun y3 =>
      some y3
    else
      some μ : Option (qMu)).bind fun y2 =>
    (fX10_says (48 + (irm p0 10)) y2).bind fun y4 =>
    some y4
def fX10_saysEdges (p0 : Int) (p1 : Int) (p2 : Int) (μ : qMu) : Option (qMu) :=
  (if 0 < wr (rd μ 78 26) then
    (fX10_says 32 μ).bind fun y3 =>
    some y3
  else
    some μ : Option (qMu)).bind fun y2 =>
  (fX10_saysNumber 3 p0 y2).bind fun y4 =>
  (fX10_says 45 y4).bind fun y5 =>
  (fX10_saysNumber 3 p1 y5).bind fun y6 =>
  if 1 < wr p2 then
    (fX10_says 120 y6).bind fun y8 =>
    (fX10_saysNumber 3 p2 y8).bind fun y9 =>
    some y9
  else
    some y6
def bX10_write_20 (n : Nat) (w1 : Int) (w2 : Int) (z3 : Int) (μ : qMu) : Option ((Int × qMu) ⊕ (qMu)) :=
  if wr z3 < 8 then
    (fX10_table w1 μ).bind fun y5 =>
    (fX10_many y5 w2 z3 μ).bind fun y6 =>
    (if 0 < wr y6 then
      (fX10_table w1 μ).bind fun y9 =>
      (fX10_many y9 w2 z3 μ).bind fun y10 =>
      (fX10_saysEdges w2 z3 y10 μ).bind fun y11 =>
      some y11
    else
      some μ : Option (qMu)).bind fun y8 =>
    some (.inl ((z3 + 1), y8))
  else
    some (.inr μ)
def bX10_write_12 (n : Nat) (w1 : Int) (z2 : Int) (μ : qMu) : Option ((Int × qMu) ⊕ (qMu)) :=
  if wr z2 < 8 then
    (lp (fun x : Int × qMu => bX10_write_20 n w1 z2 x.1 x.2) n (z2, μ)).bind fun y12 =>
    some (.inl ((z2 + 1), y12))
  else
    some (.inr μ)
def fX10_write (n : Nat) (p0 : Int) (μ : qMu) : Option (Int × qMu) :=
  (qPf μ 78 4 0).bind fun μ1 =>
  (qPf μ1 78 26 0).bind fun μ2 =>
  (lp (fun x : Int × qMu => bX10_write_12 n p0 x.1 x.2) n (0, μ2)).bind fun y13 =>
  some ((rd y13 78 26), y13)
def fX10_written (p0 : Int) (μ : qMu) : Option (Int × qMu) :=
  (fX10_isIn p0 0 ((rd μ 78 26) - 1) μ).bind fun y1 =>
  (fX10_good y1 μ).bind fun y2 =>
  if wr y2.1 = 0 then
    some (0, y2.2)
  else
    (qLd y2.2 91 160 p0).bind fun x4 =>
    (qch (i2c x4)).bind fun x5 =>
    some (x5, y2.2)
def fL_load (n : Nat) (p1 : Int) (μ : qMu) : Option (Int × qMu) :=
  (fX9_load n p1 μ).bind fun y1 =>
  Sum.elim (fun v3 =>
    (qSa y1.2 92 1 0 v3).bind fun μ6 =>
    some (0, μ6))
    (fun E4 =>
    if E4 = 1 then
      some (1, y1.2)
    else
      none) y1.1
def fL_times (p1 : Int) (p2 : Int) (p3 : Int) (μ : qMu) : Option (Int × qMu) :=
  (fX9_times p1 p2 p3 μ).bind fun y1 =>
  Sum.elim (fun v3 =>
    (qSa μ 92 1 0 v3).bind fun μ5 =>
    some (0, μ5))
    (fun E4 =>
    if E4 = 0 then
      some (1, μ)
    else
      none) y1
def fL_degree (n : Nat) (p1 : Int) (p2 : Int) (μ : qMu) : Option (Int × qMu) :=
  (fX9_degree n p1 p2 μ).bind fun y1 =>
  Sum.elim (fun v3 =>
    (qSa μ 92 1 0 v3).bind fun μ5 =>
    some (0, μ5))
    (fun E4 =>
    if E4 = 0 then
      some (1, μ)
    else
      none) y1
def fL_neighbours (n : Nat) (p1 : Int) (μ : qMu) : Option (Int × qMu) :=
  (fX9_neighbours n p1 μ).bind fun y1 =>
  Sum.elim (fun v3 =>
    (qSa μ 92 1 0 v3).bind fun μ5 =>
    some (0, μ5))
    (fun E4 =>
    if E4 = 0 then
      some (1, μ)
    else
      none) y1
def fL_component (n : Nat) (p1 : Int) (μ : qMu) : Option (Int × qMu) :=
  (fX9_component n p1 μ).bind fun y1 =>
  Sum.elim (fun v3 =>
    (qSa y1.2 92 1 0 v3).bind fun μ6 =>
    some (0, μ6))
    (fun E4 =>
    if E4 = 0 then
      some (1, y1.2)
    else
      none) y1.1
def fL_isBridge (n : Nat) (p1 : Int) (p2 : Int) (μ : qMu) : Option (Int × qMu) :=
  (fX9_isBridge n p1 p2 μ).bind fun y1 =>
  Sum.elim (fun v3 =>
    (qSa y1.2 92 1 0 (if wr v3 = 0 then 0 else 1)).bind fun μ9 =>
    some (0, μ9))
    (fun E4 =>
    if E4 = 0 then
      some (1, y1.2)
    else
      if E4 = 2 then
        some (2, y1.2)
      else
        none) y1.1
def fL_way (n : Nat) (p1 : Int) (p2 : Int) (μ : qMu) : Option (Int × qMu) :=
  (fX9_way n p1 p2 μ).bind fun y1 =>
  Sum.elim (fun v3 =>
    (qSa y1.2 92 1 0 v3).bind fun μ6 =>
    some (0, μ6))
    (fun E4 =>
    if E4 = 0 then
      some (1, y1.2)
    else
      none) y1.1
def fL_sorted (n : Nat) (p1 : Int) (μ : qMu) : Option (Int × qMu) :=
  (fX9_sorted n p1 μ).bind fun y1 =>
  Sum.elim (fun v3 =>
    (qSa y1.2 92 1 0 v3).bind fun μ6 =>
    some (0, μ6))
    (fun E4 =>
    if E4 = 0 then
      some (1, y1.2)
    else
      none) y1.1
def fL_slack (n : Nat) (p1 : Int) (μ : qMu) : Option (Int × qMu) :=
  (fX9_slack n p1 μ).bind fun y1 =>
  Sum.elim (fun v3 =>
    (qSa y1.2 92 1 0 v3).bind fun μ6 =>
    some (0, μ6))
    (fun E4 =>
    if E4 = 0 then
      some (1, y1.2)
    else
      none) y1.1
def fL_isPossible (n : Nat) (p1 : Int) (μ : qMu) : Option (Int × qMu) :=
  (fX9_isPossible n p1 μ).bind fun y1 =>
  Sum.elim (fun v3 =>
    (qSa y1.2 92 1 0 (if wr v3 = 0 then 0 else 1)).bind fun μ9 =>
    some (0, μ9))
    (fun E4 =>
    if E4 = 1 then
      some (1, y1.2)
    else
      none) y1.1
def fL_reason (p1 : Int) (p2 : Int) (p3 : Int) (p4 : Int) (μ : qMu) : Option (Int × qMu) :=
  (fX9_reason p1 p2 p3 p4 μ).bind fun y1 =>
  Sum.elim (fun v3 =>
    (qSa μ 92 1 0 v3).bind fun μ5 =>
    some (0, μ5))
    (fun E4 =>
    if E4 = 0 then
      some (1, μ)
    else
      none) y1
def fL_switchAt (n : Nat) (p1 : Int) (p2 : Int) (μ : qMu) : Option (Int × qMu) :=
  (fX9_switchAt n p1 p2 μ).bind fun y1 =>
  Sum.elim (fun v3 =>
    (qSa y1.2 92 1 0 v3).bind fun μ6 =>
    some (0, μ6))
    (fun E4 =>
    if E4 = 0 then
      some (1, y1.2)
    else
      if E4 = 1 then
        some (2, y1.2)
      else
        none) y1.1
def fL_componentsBehind (n : Nat) (p1 : Int) (p2 : Int) (p3 : Int) (p4 : Int) (μ : qMu) : Option (Int × qMu) :=
  (fX9_componentsBehind n p1 p2 p3 p4 μ).bind fun y1 =>
  Sum.elim (fun v3 =>
    (qSa y1.2 92 1 0 v3).bind fun μ6 =>
    some (0, μ6))
    (fun E4 =>
    if E4 = 0 then
      some (1, y1.2)
    else
      if E4 = 3 then
        some (2, y1.2)
      else
        none) y1.1
def fL_nearest (n : Nat) (μ : qMu) : Option (Int × qMu) :=
  (fX9_nearest n μ).bind fun y1 =>
  Sum.elim (fun v3 =>
    (qSa y1.2 92 1 0 v3).bind fun μ6 =>
    some (0, μ6))
    (fun E4 =>
    if E4 = 2 then
      some (1, y1.2)
    else
      none) y1.1
def fL_pathLength (n : Nat) (μ : qMu) : Option (Int × qMu) :=
  (fX9_pathLength n μ).bind fun y1 =>
  Sum.elim (fun v3 =>
    (qSa y1.2 92 1 0 v3).bind fun μ6 =>
    some (0, μ6))
    (fun E4 =>
    if E4 = 3 then
      some (1, y1.2)
    else
      none) y1.1
def fL_path (n : Nat) (p1 : Int) (p2 : Int) (μ : qMu) : Option (Int × qMu) :=
  (fX9_path n p1 p2 μ).bind fun y1 =>
  Sum.elim (fun v3 =>
    (qSa y1.2 92 1 0 v3).bind fun μ6 =>
    some (0, μ6))
    (fun E4 =>
    if E4 = 3 then
      some (1, y1.2)
    else
      if E4 = 0 then
        some (2, y1.2)
      else
        if E4 = 1 then
          some (3, y1.2)
        else
          none) y1.1
def fL_distance (n : Nat) (μ : qMu) : Option (Int × qMu) :=
  (fX9_distance n μ).bind fun y1 =>
  Sum.elim (fun v3 =>
    (qSa y1.2 92 1 0 v3).bind fun μ6 =>
    some (0, μ6))
    (fun E4 =>
    if E4 = 3 then
      some (1, y1.2)
    else
      none) y1.1
def fL_addEdge (n : Nat) (p1 : Int) (p2 : Int) (μ : qMu) : Option (Int × qMu) :=
  (fX9_addEdge n p1 p2 μ).bind fun y1 =>
  Sum.elim (fun v3 =>
    (qSa y1.2 92 1 0 v3).bind fun μ6 =>
    some (0, μ6))
    (fun E4 =>
    if E4 = 0 then
      some (1, y1.2)
    else
      if E4 = 3 then
        some (2, y1.2)
      else
        none) y1.1
def fL_removeEdge (n : Nat) (p1 : Int) (p2 : Int) (μ : qMu) : Option (Int × qMu) :=
  (fX9_removeEdge n p1 p2 μ).bind fun y1 =>
  Sum.elim (fun v3 =>
    (qSa y1.2 92 1 0 v3).bind fun μ6 =>
    some (0, μ6))
    (fun E4 =>
    if E4 = 0 then
      some (1, y1.2)
    else
      if E4 = 2 then
        some (2, y1.2)
      else
        none) y1.1
def fL_switchEdges (n : Nat) (p1 : Int) (p2 : Int) (p3 : Int) (p4 : Int) (μ : qMu) : Option (Int × qMu) :=
  (fX9_switchEdges n p1 p2 p3 p4 μ).bind fun y1 =>
  Sum.elim (fun v3 =>
    (qSa y1.2 92 1 0 v3).bind fun μ6 =>
    some (0, μ6))
    (fun E4 =>
    if E4 = 0 then
      some (1, y1.2)
    else
      if E4 = 3 then
        some (2, y1.2)
      else
        none) y1.1
def fL_realise (n : Nat) (p1 : Int) (μ : qMu) : Option (Int × qMu) :=
  (fX9_realise n p1 μ).bind fun y1 =>
  Sum.elim (fun v3 =>
    (qSa y1.2 92 1 0 v3).bind fun μ6 =>
    some (0, μ6))
    (fun E4 =>
    if E4 = 1 then
      some (1, y1.2)
    else
      if E4 = 3 then
        some (2, y1.2)
      else
        none) y1.1
def fL_follow (n : Nat) (p1 : Int) (μ : qMu) : Option (Int × qMu) :=
  (fX9_follow n p1 μ).bind fun y1 =>
  Sum.elim (fun v3 =>
    (qSa y1.2 92 1 0 v3).bind fun μ6 =>
    some (0, μ6))
    (fun E4 =>
    if E4 = 1 then
      some (1, y1.2)
    else
      if E4 = 3 then
        some (2, y1.2)
      else
        none) y1.1
def fL_setMode (n : Nat) (p1 : Int) (μ : qMu) : Option (Int × qMu) :=
  (fX9_setMode n p1 μ).bind fun y1 =>
  Sum.elim (fun v3 =>
    (qSa y1.2 92 1 0 v3).bind fun μ6 =>
    some (0, μ6))
    (fun E4 =>
    if E4 = 1 then
      some (1, y1.2)
    else
      none) y1.1
def fL_written (p1 : Int) (μ : qMu) : Option (Int × qMu) :=
  (fX9_written p1 μ).bind fun y1 =>
  Sum.elim (fun v3 =>
    (qSa μ 92 1 0 v3).bind fun μ5 =>
    some (0, μ5))
    (fun E4 =>
    if E4 = 0 then
      some (1, μ)
    else
      none) y1
def sL_244 (n Ls : Nat) (i : Int) (μ : qMu) : Option (Int × qMu) :=
  (qLd μ 1001000 Ls (i + 1)).bind fun x1 =>
  (qLd μ 1001000 Ls (i + 2)).bind fun x2 =>
  (qLd μ 1001000 Ls (i + 3)).bind fun x3 =>
  (qLd μ 1001000 Ls (i + 4)).bind fun x4 =>
  (qLd μ 1001000 Ls (i + 5)).bind fun x5 =>
  (fX9_feed n x1 x2 x3 x4 x5 μ).bind fun y6 =>
  (qLd y6.2 1001000 Ls (i + 1)).bind fun x7 =>
  (qLd y6.2 1001000 Ls (i + 2)).bind fun x8 =>
  (qLd y6.2 1001000 Ls (i + 3)).bind fun x9 =>
  (qLd y6.2 1001000 Ls (i + 4)).bind fun x10 =>
  (qLd y6.2 1001000 Ls (i + 5)).bind fun x11 =>
  (fX10_feed n x7 x8 x9 x10 x11 y6.2).bind fun y12 =>
  if wr y6.1 = wr y12.1 then
    some (0, y12.2)
  else
    none
def sL_317 (n Ls : Nat) (i : Int) (μ : qMu) : Option (Int × qMu) :=
  (qLd μ 1001000 Ls (i + 1)).bind fun x1 =>
  (fL_load n x1 μ).bind fun y2 =>
  (qLd y2.2 1001000 Ls (i + 1)).bind fun x3 =>
  (fX10_load n x3 y2.2).bind fun y4 =>
  (fX10_thrown y4.2).bind fun y5 =>
  if wr y5 = wr y2.1 then
    if wr y2.1 = 0 then
      (qLd y4.2 92 1 0).bind fun x8 =>
      if wr (lcm x8 y4.1) = 0 then
        some (y2.1, y4.2)
      else
        none
    else
      some (y2.1, y4.2)
  else
    none
def sL_373 (n Ls : Nat) (i : Int) (μ : qMu) : Option (Int × qMu) :=
  (fX9_errorKind μ).bind fun y1 =>
  (fX10_errorKind μ).bind fun y2 =>
  if wr y1 = wr y2.1 then
    some (0, y2.2)
  else
    none
def sL_386 (n Ls : Nat) (i : Int) (μ : qMu) : Option (Int × qMu) :=
  (fX9_errorPosition μ).bind fun y1 =>
  (fX10_errorPosition μ).bind fun y2 =>
  if wr y1 = wr y2.1 then
    some (0, y2.2)
  else
    none
def sL_399 (n Ls : Nat) (i : Int) (μ : qMu) : Option (Int × qMu) :=
  (fX9_vertices μ).bind fun y1 =>
  (fX10_vertices μ).bind fun y2 =>
  if wr y1 = wr y2.1 then
    some (0, y2.2)
  else
    none
def sL_412 (n Ls : Nat) (i : Int) (μ : qMu) : Option (Int × qMu) :=
  (fX9_mode μ).bind fun y1 =>
  (fX10_mode μ).bind fun y2 =>
  if wr y1 = wr y2.1 then
    some (0, y2.2)
  else
    none
def sL_425 (n Ls : Nat) (i : Int) (μ : qMu) : Option (Int × qMu) :=
  (qLd μ 1001000 Ls (i + 1)).bind fun x1 =>
  (fX9_edges (if wr x1 = 0 then 0 else 1) μ).bind fun y5 =>
  (qLd μ 1001000 Ls (i + 1)).bind fun x6 =>
  (fX10_edges n (if wr x6 = 0 then 0 else 1) μ).bind fun y10 =>
  if wr y5 = wr y10.1 then
    some (0, y10.2)
  else
    none
def sL_466 (n Ls : Nat) (i : Int) (μ : qMu) : Option (Int × qMu) :=
  (qLd μ 1001000 Ls (i + 1)).bind fun x1 =>
  (qLd μ 1001000 Ls (i + 2)).bind fun x2 =>
  (qLd μ 1001000 Ls (i + 3)).bind fun x3 =>
  (fL_times x1 x2 (if wr x3 = 0 then 0 else 1) μ).bind fun y7 =>
  (qLd y7.2 1001000 Ls (i + 1)).bind fun x8 =>
  (qLd y7.2 1001000 Ls (i + 2)).bind fun x9 =>
  (qLd y7.2 1001000 Ls (i + 3)).bind fun x10 =>
  (fX10_times x8 x9 (if wr x10 = 0 then 0 else 1) y7.2).bind fun y14 =>
  (fX10_thrown y14.2).bind fun y15 =>
  if wr y15 = wr y7.1 then
    if wr y7.1 = 0 then
      (qLd y14.2 92 1 0).bind fun x18 =>
      if wr (lcm x18 y14.1) = 0 then
        some (y7.1, y14.2)
      else
        none
    else
      some (y7.1, y14.2)
  else
    none
def sL_562 (n Ls : Nat) (i : Int) (μ : qMu) : Option (Int × qMu) :=
  (qLd μ 1001000 Ls (i + 1)).bind fun x1 =>
  (qLd μ 1001000 Ls (i + 2)).bind fun x2 =>
  (fL_degree n x1 (if wr x2 = 0 then 0 else 1) μ).bind fun y6 =>
  (qLd y6.2 1001000 Ls (i + 1)).bind fun x7 =>
  (qLd y6.2 1001000 Ls (i + 2)).bind fun x8 =>
  (fX10_degree n x7 (if wr x8 = 0 then 0 else 1) y6.2).bind fun y12 =>
  (fX10_thrown y12.2).bind fun y13 =>
  if wr y13 = wr y6.1 then
    if wr y6.1 = 0 then
      (qLd y12.2 92 1 0).bind fun x16 =>
      if wr (lcm x16 y12.1) = 0 then
        some (y6.1, y12.2)
      else
        none
    else
      some (y6.1, y12.2)
  else
    none
def sL_646 (n Ls : Nat) (i : Int) (μ : qMu) : Option (Int × qMu) :=
  (fX9_loops n μ).bind fun y1 =>
  (fX10_loops n μ).bind fun y2 =>
  if wr y1 = wr y2.1 then
    some (0, y2.2)
  else
    none
def sL_659 (n Ls : Nat) (i : Int) (μ : qMu) : Option (Int × qMu) :=
  (fX9_defects n μ).bind fun y1 =>
  (fX10_defects n μ).bind fun y2 =>
  if wr y1 = wr y2.1 then
    some (0, y2.2)
  else
    none
def sL_672 (n Ls : Nat) (i : Int) (μ : qMu) : Option (Int × qMu) :=
  (fX9_isSimple n μ).bind fun y1 =>
  (fX10_isSimple n μ).bind fun y2 =>
  if wr y1 = wr y2.1 then
    some (0, y2.2)
  else
    none
def sL_685 (n Ls : Nat) (i : Int) (μ : qMu) : Option (Int × qMu) :=
  (qLd μ 1001000 Ls (i + 1)).bind fun x1 =>
  (fL_neighbours n x1 μ).bind fun y2 =>
  (qLd y2.2 1001000 Ls (i + 1)).bind fun x3 =>
  (fX10_neighbours n x3 y2.2).bind fun y4 =>
  (fX10_thrown y4.2).bind fun y5 =>
  if wr y5 = wr y2.1 then
    if wr y2.1 = 0 then
      (qLd y4.2 92 1 0).bind fun x8 =>
      if wr (lcm x8 y4.1) = 0 then
        some (y2.1, y4.2)
      else
        none
    else
      some (y2.1, y4.2)
  else
    none
def sL_741 (n Ls : Nat) (i : Int) (μ : qMu) : Option (Int × qMu) :=
  (fX9_triangles n μ).bind fun y1 =>
  (fX10_triangles n μ).bind fun y2 =>
  if wr y1 = wr y2.1 then
    some (0, y2.2)
  else
    none
def sL_754 (n Ls : Nat) (i : Int) (μ : qMu) : Option (Int × qMu) :=
  (fX9_components n μ).bind fun y1 =>
  (fX10_components n y1.2).bind fun y2 =>
  if wr y1.1 = wr y2.1 then
    some (0, y2.2)
  else
    none
def sL_767 (n Ls : Nat) (i : Int) (μ : qMu) : Option (Int × qMu) :=
  (qLd μ 1001000 Ls (i + 1)).bind fun x1 =>
  (fL_component n x1 μ).bind fun y2 =>
  (qLd y2.2 1001000 Ls (i + 1)).bind fun x3 =>
  (fX10_component n x3 y2.2).bind fun y4 =>
  (fX10_thrown y4.2).bind fun y5 =>
  if wr y5 = wr y2.1 then
    if wr y2.1 = 0 then
      (qLd y4.2 92 1 0).bind fun x8 =>
      if wr (lcm x8 y4.1) = 0 then
        some (y2.1, y4.2)
      else
        none
    else
      some (y2.1, y4.2)
  else
    none
def sL_823 (n Ls : Nat) (i : Int) (μ : qMu) : Option (Int × qMu) :=
  (fX9_isConnected n μ).bind fun y1 =>
  (fX10_isConnected n y1.2).bind fun y2 =>
  if wr y1.1 = wr y2.1 then
    some (0, y2.2)
  else
    none
def sL_836 (n Ls : Nat) (i : Int) (μ : qMu) : Option (Int × qMu) :=
  (qLd μ 1001000 Ls (i + 1)).bind fun x1 =>
  (qLd μ 1001000 Ls (i + 2)).bind fun x2 =>
  (fL_isBridge n x1 x2 μ).bind fun y3 =>
  (qLd y3.2 1001000 Ls (i + 1)).bind fun x4 =>
  (qLd y3.2 1001000 Ls (i + 2)).bind fun x5 =>
  (fX10_isBridge n x4 x5 y3.2).bind fun y6 =>
  (fX10_thrown y6.2).bind fun y7 =>
  if wr y7 = wr y3.1 then
    if wr y3.1 = 0 then
      (qLd y6.2 92 1 0).bind fun x10 =>
      if wr (lcm x10 (if wr y6.1 = 0 then 0 else 1)) = 0 then
        some (y3.1, y6.2)
      else
        none
    else
      some (y3.1, y6.2)
  else
    none
def sL_911 (n Ls : Nat) (i : Int) (μ : qMu) : Option (Int × qMu) :=
  (fX9_bridges n μ).bind fun y1 =>
  (fX10_bridges n y1.2).bind fun y2 =>
  if wr y1.1 = wr y2.1 then
    some (0, y2.2)
  else
    none
def sL_924 (n Ls : Nat) (i : Int) (μ : qMu) : Option (Int × qMu) :=
  (qLd μ 1001000 Ls (i + 1)).bind fun x1 =>
  (qLd μ 1001000 Ls (i + 2)).bind fun x2 =>
  (fL_way n x1 x2 μ).bind fun y3 =>
  (qLd y3.2 1001000 Ls (i + 1)).bind fun x4 =>
  (qLd y3.2 1001000 Ls (i + 2)).bind fun x5 =>
  (fX10_way n x4 x5 y3.2).bind fun y6 =>
  (fX10_thrown y6.2).bind fun y7 =>
  if wr y7 = wr y3.1 then
    if wr y3.1 = 0 then
      (qLd y6.2 92 1 0).bind fun x10 =>
      if wr (lcm x10 y6.1) = 0 then
        some (y3.1, y6.2)
      else
        none
    else
      some (y3.1, y6.2)
  else
    none
def sL_992 (n Ls : Nat) (i : Int) (μ : qMu) : Option (Int × qMu) :=
  (qLd μ 1001000 Ls (i + 1)).bind fun x1 =>
  (fL_sorted n x1 μ).bind fun y2 =>
  (qLd y2.2 1001000 Ls (i + 1)).bind fun x3 =>
  (fX10_sorted n x3 y2.2).bind fun y4 =>
  (fX10_thrown y4.2).bind fun y5 =>
  if wr y5 = wr y2.1 then
    if wr y2.1 = 0 then
      (qLd y4.2 92 1 0).bind fun x8 =>
      if wr (lcm x8 y4.1) = 0 then
        some (y2.1, y4.2)
      else
        none
    else
      some (y2.1, y4.2)
  else
    none
def sL_1048 (n Ls : Nat) (i : Int) (μ : qMu) : Option (Int × qMu) :=
  (qLd μ 1001000 Ls (i + 1)).bind fun x1 =>
  (fL_slack n x1 μ).bind fun y2 =>
  (qLd y2.2 1001000 Ls (i + 1)).bind fun x3 =>
  (fX10_slack n x3 y2.2).bind fun y4 =>
  (fX10_thrown y4.2).bind fun y5 =>
  if wr y5 = wr y2.1 then
    if wr y2.1 = 0 then
      (qLd y4.2 92 1 0).bind fun x8 =>
      if wr (lcm x8 y4.1) = 0 then
        some (y2.1, y4.2)
      else
        none
    else
      some (y2.1, y4.2)
  else
    none
def sL_1104 (n Ls : Nat) (i : Int) (μ : qMu) : Option (Int × qMu) :=
  (qLd μ 1001000 Ls (i + 1)).bind fun x1 =>
  (fL_isPossible n x1 μ).bind fun y2 =>
  (qLd y2.2 1001000 Ls (i + 1)).bind fun x3 =>
  (fX10_isPossible n x3 y2.2).bind fun y4 =>
  (fX10_thrown y4.2).bind fun y5 =>
  if wr y5 = wr y2.1 then
    if wr y2.1 = 0 then
      (qLd y4.2 92 1 0).bind fun x8 =>
      if wr (lcm x8 (if wr y4.1 = 0 then 0 else 1)) = 0 then
        some (y2.1, y4.2)
      else
        none
    else
      some (y2.1, y4.2)
  else
    none
def sL_1167 (n Ls : Nat) (i : Int) (μ : qMu) : Option (Int × qMu) :=
  (fX9_meanDegree μ).bind fun y1 =>
  (fX10_meanDegree n μ).bind fun y2 =>
  if wr (dcm y1 y2.1 .l) = 0 then
    some (0, y2.2)
  else
    if wr (dcm y1 y1 .l) = 0 then
      none
    else
      if wr (dcm y2.1 y2.1 .l) = 0 then
        none
      else
        some (0, y2.2)
def sL_1208 (n Ls : Nat) (i : Int) (μ : qMu) : Option (Int × qMu) :=
  (qLd μ 1001000 Ls (i + 1)).bind fun x1 =>
  (qLd μ 1001000 Ls (i + 2)).bind fun x2 =>
  (qLd μ 1001000 Ls (i + 3)).bind fun x3 =>
  (qLd μ 1001000 Ls (i + 4)).bind fun x4 =>
  (fL_reason x1 x2 x3 x4 μ).bind fun y5 =>
  (qLd y5.2 1001000 Ls (i + 1)).bind fun x6 =>
  (qLd y5.2 1001000 Ls (i + 2)).bind fun x7 =>
  (qLd y5.2 1001000 Ls (i + 3)).bind fun x8 =>
  (qLd y5.2 1001000 Ls (i + 4)).bind fun x9 =>
  (fX10_reason x6 x7 x8 x9 y5.2).bind fun y10 =>
  (fX10_thrown y10.2).bind fun y11 =>
  if wr y11 = wr y5.1 then
    if wr y5.1 = 0 then
      (qLd y10.2 92 1 0).bind fun x14 =>
      if wr (lcm x14 y10.1) = 0 then
        some (y5.1, y10.2)
      else
        none
    else
      some (y5.1, y10.2)
  else
    none
def sL_1300 (n Ls : Nat) (i : Int) (μ : qMu) : Option (Int × qMu) :=
  (fX9_switches n μ).bind fun y1 =>
  (fX10_switches_ n y1.2).bind fun y2 =>
  if wr y1.1 = wr y2.1 then
    some (0, y2.2)
  else
    none
def sL_1313 (n Ls : Nat) (i : Int) (μ : qMu) : Option (Int × qMu) :=
  (qLd μ 1001000 Ls (i + 1)).bind fun x1 =>
  (qLd μ 1001000 Ls (i + 2)).bind fun x2 =>
  (fL_switchAt n x1 x2 μ).bind fun y3 =>
  (qLd y3.2 1001000 Ls (i + 1)).bind fun x4 =>
  (qLd y3.2 1001000 Ls (i + 2)).bind fun x5 =>
  (fX10_switchAt n x4 x5 y3.2).bind fun y6 =>
  (fX10_thrown y6.2).bind fun y7 =>
  if wr y7 = wr y3.1 then
    if wr y3.1 = 0 then
      (qLd y6.2 92 1 0).bind fun x10 =>
      if wr (lcm x10 y6.1) = 0 then
        some (y3.1, y6.2)
      else
        none
    else
      some (y3.1, y6.2)
  else
    none
def sL_1381 (n Ls : Nat) (i : Int) (μ : qMu) : Option (Int × qMu) :=
  (qLd μ 1001000 Ls (i + 1)).bind fun x1 =>
  (qLd μ 1001000 Ls (i + 2)).bind fun x2 =>
  (qLd μ 1001000 Ls (i + 3)).bind fun x3 =>
  (qLd μ 1001000 Ls (i + 4)).bind fun x4 =>
  (fL_componentsBehind n x1 x2 x3 x4 μ).bind fun y5 =>
  (qLd y5.2 1001000 Ls (i + 1)).bind fun x6 =>
  (qLd y5.2 1001000 Ls (i + 2)).bind fun x7 =>
  (qLd y5.2 1001000 Ls (i + 3)).bind fun x8 =>
  (qLd y5.2 1001000 Ls (i + 4)).bind fun x9 =>
  (fX10_componentsBehind n x6 x7 x8 x9 y5.2).bind fun y10 =>
  (fX10_thrown y10.2).bind fun y11 =>
  if wr y11 = wr y5.1 then
    if wr y5.1 = 0 then
      (qLd y10.2 92 1 0).bind fun x14 =>
      if wr (lcm x14 y10.1) = 0 then
        some (y5.1, y10.2)
      else
        none
    else
      some (y5.1, y10.2)
  else
    none
def sL_1473 (n Ls : Nat) (i : Int) (μ : qMu) : Option (Int × qMu) :=
  (fL_nearest n μ).bind fun y1 =>
  (fX10_nearest n y1.2).bind fun y2 =>
  (fX10_thrown y2.2).bind fun y3 =>
  if wr y3 = wr y1.1 then
    if wr y1.1 = 0 then
      (qLd y2.2 92 1 0).bind fun x6 =>
      if wr (lcm x6 y2.1) = 0 then
        some (y1.1, y2.2)
      else
        none
    else
      some (y1.1, y2.2)
  else
    none
def sL_1517 (n Ls : Nat) (i : Int) (μ : qMu) : Option (Int × qMu) :=
  (fX9_isAlike n μ).bind fun y1 =>
  (fX10_isAlike n μ).bind fun y2 =>
  if wr y1 = wr y2.1 then
    some (0, y2.2)
  else
    none
def sL_1530 (n Ls : Nat) (i : Int) (μ : qMu) : Option (Int × qMu) :=
  (fX9_difference n μ).bind fun y1 =>
  (fX10_difference n μ).bind fun y2 =>
  if wr y1 = wr y2.1 then
    some (0, y2.2)
  else
    none
def sL_1543 (n Ls : Nat) (i : Int) (μ : qMu) : Option (Int × qMu) :=
  (fL_pathLength n μ).bind fun y1 =>
  (fX10_pathLength n y1.2).bind fun y2 =>
  (fX10_thrown y2.2).bind fun y3 =>
  if wr y3 = wr y1.1 then
    if wr y1.1 = 0 then
      (qLd y2.2 92 1 0).bind fun x6 =>
      if wr (lcm x6 y2.1) = 0 then
        some (y1.1, y2.2)
      else
        none
    else
      some (y1.1, y2.2)
  else
    none
def sL_1587 (n Ls : Nat) (i : Int) (μ : qMu) : Option (Int × qMu) :=
  (qLd μ 1001000 Ls (i + 1)).bind fun x1 =>
  (qLd μ 1001000 Ls (i + 2)).bind fun x2 =>
  (fL_path n x1 x2 μ).bind fun y3 =>
  (qLd y3.2 1001000 Ls (i + 1)).bind fun x4 =>
  (qLd y3.2 1001000 Ls (i + 2)).bind fun x5 =>
  (fX10_path n x4 x5 y3.2).bind fun y6 =>
  (fX10_thrown y6.2).bind fun y7 =>
  if wr y7 = wr y3.1 then
    if wr y3.1 = 0 then
      (qLd y6.2 92 1 0).bind fun x10 =>
      if wr (lcm x10 y6.1) = 0 then
        some (y3.1, y6.2)
      else
        none
    else
      some (y3.1, y6.2)
  else
    none
def sL_1655 (n Ls : Nat) (i : Int) (μ : qMu) : Option (Int × qMu) :=
  (fL_distance n μ).bind fun y1 =>
  (fX10_distance n y1.2).bind fun y2 =>
  (fX10_thrown y2.2).bind fun y3 =>
  if wr y3 = wr y1.1 then
    if wr y1.1 = 0 then
      (qLd y2.2 92 1 0).bind fun x6 =>
      if wr (lcm x6 y2.1) = 0 then
        some (y1.1, y2.2)
      else
        none
    else
      some (y1.1, y2.2)
  else
    none
def sL_1699 (n Ls : Nat) (i : Int) (μ : qMu) : Option (Int × qMu) :=
  (qLd μ 1001000 Ls (i + 1)).bind fun x1 =>
  (qLd μ 1001000 Ls (i + 2)).bind fun x2 =>
  (fL_addEdge n x1 x2 μ).bind fun y3 =>
  (qLd y3.2 1001000 Ls (i + 1)).bind fun x4 =>
  (qLd y3.2 1001000 Ls (i + 2)).bind fun x5 =>
  (fX10_addEdge n x4 x5 y3.2).bind fun y6 =>
  (fX10_thrown y6.2).bind fun y7 =>
  if wr y7 = wr y3.1 then
    if wr y3.1 = 0 then
      (qLd y6.2 92 1 0).bind fun x10 =>
      if wr (lcm x10 y6.1) = 0 then
        some (y3.1, y6.2)
      else
        none
    else
      some (y3.1, y6.2)
  else
    none
def sL_1767 (n Ls : Nat) (i : Int) (μ : qMu) : Option (Int × qMu) :=
  (qLd μ 1001000 Ls (i + 1)).bind fun x1 =>
  (qLd μ 1001000 Ls (i + 2)).bind fun x2 =>
  (fL_removeEdge n x1 x2 μ).bind fun y3 =>
  (qLd y3.2 1001000 Ls (i + 1)).bind fun x4 =>
  (qLd y3.2 1001000 Ls (i + 2)).bind fun x5 =>
  (fX10_removeEdge n x4 x5 y3.2).bind fun y6 =>
  (fX10_thrown y6.2).bind fun y7 =>
  if wr y7 = wr y3.1 then
    if wr y3.1 = 0 then
      (qLd y6.2 92 1 0).bind fun x10 =>
      if wr (lcm x10 y6.1) = 0 then
        some (y3.1, y6.2)
      else
        none
    else
      some (y3.1, y6.2)
  else
    none
def sL_1835 (n Ls : Nat) (i : Int) (μ : qMu) : Option (Int × qMu) :=
  (qLd μ 1001000 Ls (i + 1)).bind fun x1 =>
  (qLd μ 1001000 Ls (i + 2)).bind fun x2 =>
  (qLd μ 1001000 Ls (i + 3)).bind fun x3 =>
  (qLd μ 1001000 Ls (i + 4)).bind fun x4 =>
  (fL_switchEdges n x1 x2 x3 x4 μ).bind fun y5 =>
  (qLd y5.2 1001000 Ls (i + 1)).bind fun x6 =>
  (qLd y5.2 1001000 Ls (i + 2)).bind fun x7 =>
  (qLd y5.2 1001000 Ls (i + 3)).bind fun x8 =>
  (qLd y5.2 1001000 Ls (i + 4)).bind fun x9 =>
  (fX10_switchEdges n x6 x7 x8 x9 y5.2).bind fun y10 =>
  (fX10_thrown y10.2).bind fun y11 =>
  if wr y11 = wr y5.1 then
    if wr y5.1 = 0 then
      (qLd y10.2 92 1 0).bind fun x14 =>
      if wr (lcm x14 y10.1) = 0 then
        some (y5.1, y10.2)
      else
        none
    else
      some (y5.1, y10.2)
  else
    none
def sL_1927 (n Ls : Nat) (i : Int) (μ : qMu) : Option (Int × qMu) :=
  (qLd μ 1001000 Ls (i + 1)).bind fun x1 =>
  (fL_realise n x1 μ).bind fun y2 =>
  (qLd y2.2 1001000 Ls (i + 1)).bind fun x3 =>
  (fX10_realise n x3 y2.2).bind fun y4 =>
  (fX10_thrown y4.2).bind fun y5 =>
  if wr y5 = wr y2.1 then
    if wr y2.1 = 0 then
      (qLd y4.2 92 1 0).bind fun x8 =>
      if wr (lcm x8 y4.1) = 0 then
        some (y2.1, y4.2)
      else
        none
    else
      some (y2.1, y4.2)
  else
    none
def sL_1983 (n Ls : Nat) (i : Int) (μ : qMu) : Option (Int × qMu) :=
  (qLd μ 1001000 Ls (i + 1)).bind fun x1 =>
  (fL_follow n x1 μ).bind fun y2 =>
  (qLd y2.2 1001000 Ls (i + 1)).bind fun x3 =>
  (fX10_follow n x3 y2.2).bind fun y4 =>
  (fX10_thrown y4.2).bind fun y5 =>
  if wr y5 = wr y2.1 then
    if wr y2.1 = 0 then
      (qLd y4.2 92 1 0).bind fun x8 =>
      if wr (lcm x8 y4.1) = 0 then
        some (y2.1, y4.2)
      else
        none
    else
      some (y2.1, y4.2)
  else
    none
def sL_2039 (n Ls : Nat) (i : Int) (μ : qMu) : Option (Int × qMu) :=
  (fX9_connect n μ).bind fun y1 =>
  (fX10_connect n y1.2).bind fun y2 =>
  if wr y1.1 = wr y2.1 then
    some (0, y2.2)
  else
    none
def sL_2052 (n Ls : Nat) (i : Int) (μ : qMu) : Option (Int × qMu) :=
  (fX9_simplify n μ).bind fun y1 =>
  (fX10_simplify n y1.2).bind fun y2 =>
  if wr y1.1 = wr y2.1 then
    some (0, y2.2)
  else
    none
def sL_2065 (n Ls : Nat) (i : Int) (μ : qMu) : Option (Int × qMu) :=
  (fX9_exchange n μ).bind fun y1 =>
  (fX10_exchange n y1.2).bind fun y2 =>
  if wr y1.1 = wr y2.1 then
    some (0, y2.2)
  else
    none
def sL_2078 (n Ls : Nat) (i : Int) (μ : qMu) : Option (Int × qMu) :=
  (fX9_copyToTarget n μ).bind fun y1 =>
  (fX10_copyToTarget n y1.2).bind fun y2 =>
  if wr y1.1 = wr y2.1 then
    some (0, y2.2)
  else
    none
def sL_2091 (n Ls : Nat) (i : Int) (μ : qMu) : Option (Int × qMu) :=
  (qLd μ 1001000 Ls (i + 1)).bind fun x1 =>
  (fL_setMode n x1 μ).bind fun y2 =>
  (qLd y2.2 1001000 Ls (i + 1)).bind fun x3 =>
  (fX10_setMode n x3 y2.2).bind fun y4 =>
  (fX10_thrown y4.2).bind fun y5 =>
  if wr y5 = wr y2.1 then
    if wr y2.1 = 0 then
      (qLd y4.2 92 1 0).bind fun x8 =>
      if wr (lcm x8 y4.1) = 0 then
        some (y2.1, y4.2)
      else
        none
    else
      some (y2.1, y4.2)
  else
    none
def sL_2147 (n Ls : Nat) (i : Int) (μ : qMu) : Option (Int × qMu) :=
  (fX9_undo n μ).bind fun y1 =>
  (fX10_undo n y1.2).bind fun y2 =>
  if wr y1.1 = wr y2.1 then
    some (0, y2.2)
  else
    none
def sL_2160 (n Ls : Nat) (i : Int) (μ : qMu) : Option (Int × qMu) :=
  (qLd μ 1001000 Ls (i + 1)).bind fun x1 =>
  (fX9_write n (if wr x1 = 0 then 0 else 1) μ).bind fun y5 =>
  (qLd y5.2 1001000 Ls (i + 1)).bind fun x6 =>
  (fX10_write n (if wr x6 = 0 then 0 else 1) y5.2).bind fun y10 =>
  if wr y5.1 = wr y10.1 then
    some (0, y10.2)
  else
    none
def sL_2201 (n Ls : Nat) (i : Int) (μ : qMu) : Option (Int × qMu) :=
  (qLd μ 1001000 Ls (i + 1)).bind fun x1 =>
  (fL_written x1 μ).bind fun y2 =>
  (qLd y2.2 1001000 Ls (i + 1)).bind fun x3 =>
  (fX10_written x3 y2.2).bind fun y4 =>
  (fX10_thrown y4.2).bind fun y5 =>
  if wr y5 = wr y2.1 then
    if wr y2.1 = 0 then
      (qLd y4.2 92 1 0).bind fun x8 =>
      if wr (lcm x8 y4.1) = 0 then
        some (y2.1, y4.2)
      else
        none
    else
      some (y2.1, y4.2)
  else
    none
