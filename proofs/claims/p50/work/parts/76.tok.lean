/-! TOKENS -/
def tkS (b : Int → Int) (e p : Int) : Int := run isB b e 401 p
def tkE (b : Int → Int) (e s : Int) : Int := if s < e then (if isL (b s) = true then run isL b e 401 s else if isD (b s) = true then run isD b e 401 s else s + 1) else s
/-- 0 the end, 1 a word, 2 a number, 3 a semicolon, 4 none of these -/
def tkK (b : Int → Int) (e s : Int) : Int := if s < e then (if isL (b s) = true then (if 8 < run isL b e 401 s - s then 4 else 1) else if isD (b s) = true then (if 2 < run isD b e 401 s - s then 4 else 2) else if b s = 59 then 3 else 4) else 0
def tkV (b : Int → Int) (e s : Int) : Int := nuj b s (run isD b e 401 s - s)
/-- the reference's names for them -/
def kr (k : Int) : Int := if k = 0 then 0 else if k = 4 then 1 else k + 1
def KX (μ : qMu) (b : Int → Int) (e s : Int) : Prop := rd μ 1 10 = s ∧ rd μ 1 11 = tkE b e s ∧ rd μ 1 9 = tkK b e s ∧ (tkK b e s = 2 → rd μ 1 12 = tkV b e s)
def KM (μ : qMu) (b : Int → Int) (e s : Int) : Prop := rd μ 78 10 = s ∧ rd μ 78 11 = tkE b e s ∧ rd μ 78 12 = kr (tkK b e s) ∧ (tkK b e s = 2 → rd μ 78 13 = tkV b e s)
theorem tkS_r {b : Int → Int} {e p : Int} (hp : 0 ≤ p ∧ p ≤ e) : p ≤ tkS b e p ∧ tkS b e p ≤ e := ⟨run_ge _ _ _ _ _, run_le _ _ _ _ _ hp.2⟩
theorem run_1 {P : Int → Bool} {b : Int → Int} {e p : Int} {k : Nat} (h : p < e) (h2 : P (b p) = true) : p + 1 ≤ run P b e (k + 1) p := by
  have e1 : run P b e (k + 1) p = run P b e k (p + 1) := if_pos ⟨h, h2⟩
  rw [e1]
  exact run_ge _ _ _ _ _
theorem tkE_r {b : Int → Int} {e s : Int} (hs : 0 ≤ s ∧ s ≤ e) : s ≤ tkE b e s ∧ tkE b e s ≤ e ∧ (s < e → s + 1 ≤ tkE b e s) := by
  unfold tkE
  by_cases c1 : s < e
  · rw [if_pos c1]
    by_cases c2 : isL (b s) = true
    · rw [if_pos c2]
      have h1 : s + 1 ≤ run isL b e 401 s := run_1 (k := 400) c1 c2
      have h2 := run_le isL b e 401 s hs.2
      exact ⟨by omega, h2, fun _ => h1⟩
    · rw [if_neg c2]
      by_cases c3 : isD (b s) = true
      · rw [if_pos c3]
        have h1 : s + 1 ≤ run isD b e 401 s := run_1 (k := 400) c1 c3
        have h2 := run_le isD b e 401 s hs.2
        exact ⟨by omega, h2, fun _ => h1⟩
      · rw [if_neg c3]
        omega
  · rw [if_neg c1]
    omega
section TOK
variable {μ : qMu} {n : Nat} {b : Int → Int} {e p : Int}
theorem x_letter {x : Int} (hx : -1 ≤ x ∧ x ≤ 255) : fX5_isLetter x μ = some (if isL x = true then 1 else 0) := by
  unfold isL
  by_cases c3 : 97 ≤ x
  · by_cases c4 : x ≤ 122
    · rw [decide_eq_true c3, decide_eq_true c4, if_pos (show (true && true) = true from rfl)]
      simp (disch := omega) only [fX5_isLetter, wr_id, if_neg]
    · rw [decide_eq_false c4, Bool.and_false, if_neg (by decide)]
      simp (disch := omega) only [fX5_isLetter, wr_id, if_neg, if_pos]
  · rw [decide_eq_false c3, Bool.false_and, if_neg (by decide)]
    simp (disch := omega) only [fX5_isLetter, wr_id, if_pos]
theorem x_advance (hn : 5000 ≤ n) (h : TX μ b e) (hb : TB b e) (hp : 0 ≤ p ∧ p ≤ e) (h0 : rd μ 1 11 = p) : ∃ μ', fX5_advance n μ = some μ' ∧ KX μ' b e (tkS b e p) ∧ Fo 1 [9, 10, 11, 12] μ μ' := by
  have h1 := hb.1
  obtain ⟨μ1, a1, a2, a3⟩ := x_skip hn h hb hp h0
  have hs := tkS_r (b := b) hp
  have a2' : rd μ1 1 11 = tkS b e p := a2
  generalize tkS b e p = s at *
  have f2 : Fo 1 [9, 10, 11, 12] μ (up μ1 1 10 s) := (a3.wk (by simp)).tr (Fo.up (by simp))
  have hT : TX (up μ1 1 10 s) b e := h.kp f2 (by decide)
  have e10 : rd (up μ1 1 10 s) 1 10 = s := by
    rw [rd_at]
    exact wr_id (by omega) (by omega)
  have e11 : rd (up μ1 1 10 s) 1 11 = s := by
    rw [rd_ni (by decide)]
    exact a2'
  have hE := tkE_r (b := b) (e := e) (s := s) (by omega)
  by_cases c1 : s < e
  · have hbs := hb.2 s (by omega) c1
    have eb := x_byteAt hT hb (i := s) (by omega)
    have el := x_letter (μ := up μ1 1 10 s) (x := b s) (by omega)
    have ed := x_digit (μ := up μ1 1 10 s) (x := b s) (by omega)
    by_cases c2 : isL (b s) = true
    · rw [if_pos c2] at el
      obtain ⟨μ3, d1, d2, d3⟩ := x_word hn hT hb (p := s) (by omega) e11
      have eE : tkE b e s = run isL b e 401 s := by
        unfold tkE
        rw [if_pos c1, if_pos c2]
      have eK : tkK b e s = if 8 < run isL b e 401 s - s then 4 else 1 := by
        unfold tkK
        rw [if_pos c1, if_pos c2]
      rw [eE] at hE
      have e3 : rd μ3 1 10 = s := (d3.2 10 (by decide)).trans e10
      have hk : tkK b e s = 4 ∨ tkK b e s = 1 := by
        rw [eK]
        split <;> omega
      refine ⟨up μ3 1 9 (tkK b e s), ?_, ⟨?_, ?_, ?_, fun q => ?_⟩, (f2.tr (d3.wk (by simp))).tr (Fo.up (by simp))⟩
      · rw [eK]
        simp (disch := omega) only [fX5_advance, a1, a2', Option.bind_some, qPf_eq, e10, hT.1, wr_id, if_pos, if_neg, eb, el, fX5_takeWord, d1, d2, e3]
      · rw [rd_ni (by decide)]
        exact e3
      · rw [rd_ni (by decide), eE]
        exact d2
      · rw [rd_at]
        exact wr_id (by omega) (by omega)
      · omega
    · rw [if_neg c2] at el
      by_cases c3 : isD (b s) = true
      · rw [if_pos c3] at ed
        have e11' : rd (up (up μ1 1 10 s) 1 12 0) 1 11 = s := by
          rw [rd_ni (by decide)]
          exact e11
        have f3 : Fo 1 [9, 10, 11, 12] (up μ1 1 10 s) (up (up μ1 1 10 s) 1 12 0) := Fo.up (by simp)
        obtain ⟨μ3, d1, d2, d4, d3⟩ := x_num hn (hT.kp f3 (by decide)) hb (p := s) (by omega) e11' (by rw [rd_at]; rfl)
        have eE : tkE b e s = run isD b e 401 s := by
          unfold tkE
          rw [if_pos c1, if_neg c2, if_pos c3]
        have eK : tkK b e s = if 2 < run isD b e 401 s - s then 4 else 2 := by
          unfold tkK
          rw [if_pos c1, if_neg c2, if_pos c3]
        rw [eE] at hE
        have e3 : rd μ3 1 10 = s := by
          rw [d3.2 10 (by decide), rd_ni (by decide)]
          exact e10
        have hk : tkK b e s = 4 ∨ (tkK b e s = 2 ∧ run isD b e 401 s - s ≤ 2) := by
          rw [eK]
          split <;> omega
        refine ⟨up μ3 1 9 (tkK b e s), ?_, ⟨?_, ?_, ?_, fun q => ?_⟩, ((f2.tr f3).tr (d3.wk (by simp))).tr (Fo.up (by simp))⟩
        · rw [eK]
          simp (disch := omega) only [fX5_advance, a1, a2', Option.bind_some, qPf_eq, e10, hT.1, wr_id, if_pos, if_neg, eb, el, ed, fX5_takeNumber, d1, d2, e3, ite_true]
        · rw [rd_ni (by decide)]
          exact e3
        · rw [rd_ni (by decide), eE]
          exact d2
        · rw [rd_at]
          exact wr_id (by omega) (by omega)
        · rw [rd_ni (by decide)]
          exact d4 (by omega)
      · rw [if_neg c3] at ed
        have eE : tkE b e s = s + 1 := by
          unfold tkE
          rw [if_pos c1, if_neg c2, if_neg c3]
        have eK : tkK b e s = if b s = 59 then 3 else 4 := by
          unfold tkK
          rw [if_pos c1, if_neg c2, if_neg c3]
        have hk : tkK b e s = 4 ∨ tkK b e s = 3 := by
          rw [eK]
          split <;> omega
        have e9 : rd (up (up μ1 1 10 s) 1 9 (tkK b e s)) 1 11 = s := by
          rw [rd_ni (by decide)]
          exact e11
        refine ⟨up (up (up μ1 1 10 s) 1 9 (tkK b e s)) 1 11 (s + 1), ?_, ⟨?_, ?_, ?_, fun q => ?_⟩, (f2.tr (Fo.up (by simp))).tr (Fo.up (by simp))⟩
        · rw [eK] at e9 ⊢
          simp (disch := omega) only [fX5_advance, a1, a2', Option.bind_some, qPf_eq, e10, hT.1, wr_id, if_pos, if_neg, eb, el, ed, e9, ite_true]
        · rw [rd_ni (by decide), rd_ni (by decide)]
          exact e10
        · rw [rd_at, eE]
          exact wr_id (by omega) (by omega)
        · rw [rd_ni (by decide), rd_at]
          exact wr_id (by omega) (by omega)
        · omega
  · have eE : tkE b e s = s := if_neg c1
    have eK : tkK b e s = 0 := if_neg c1
    refine ⟨up (up μ1 1 10 s) 1 9 0, ?_, ⟨?_, ?_, ?_, fun q => ?_⟩, f2.tr (Fo.up (by simp))⟩
    · simp (disch := omega) only [fX5_advance, a1, a2', Option.bind_some, qPf_eq, e10, hT.1, wr_id, if_neg]
    · rw [rd_ni (by decide)]
      exact e10
    · rw [rd_ni (by decide), eE]
      exact e11
    · rw [rd_at, eK]
      rfl
    · omega
end TOK
