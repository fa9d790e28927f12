section TOM
variable {μ : qMu} {n : Nat} {b : Int → Int} {e p : Int}
theorem m_advance (hn : 5000 ≤ n) (h : TM μ b e) (hb : TB b e) (hp : 0 ≤ p ∧ p ≤ e) (h0 : rd μ 78 11 = p) : ∃ μ', fX10_advance n μ = some (1, μ') ∧ KM μ' b e (tkS b e p) ∧ Fo 78 [10, 11, 12, 13] μ μ' := by
  have h1 := hb.1
  obtain ⟨μ1, a1, a2, a3⟩ := m_skip hn h hb hp h0
  have hs := tkS_r (b := b) hp
  have a2' : rd μ1 78 11 = tkS b e p := a2
  generalize tkS b e p = s at *
  have f2 : Fo 78 [10, 11, 12, 13] μ (up μ1 78 10 s) := (a3.wk (by simp)).tr (Fo.up (by simp))
  have hT : TM (up μ1 78 10 s) b e := h.kp f2 (by decide)
  have e10 : rd (up μ1 78 10 s) 78 10 = s := by
    rw [rd_at]
    exact wr_id (by omega) (by omega)
  have e11 : rd (up μ1 78 10 s) 78 11 = s := by
    rw [rd_ni (by decide)]
    exact a2'
  have hE := tkE_r (b := b) (e := e) (s := s) (by omega)
  have eb := m_byteAt hT hb (i := s) (by omega)
  by_cases c1 : s < e
  · have hbs := hb.2 s (by omega) c1
    rw [if_pos c1] at eb
    have el := m_letter (μ := up μ1 78 10 s) (x := b s) (by omega)
    have ed := m_digit (μ := up μ1 78 10 s) (x := b s) (by omega)
    by_cases c2 : isL (b s) = true
    · rw [if_pos c2] at el
      obtain ⟨μ3, d1, d2, d3⟩ := m_word hn hT hb (p := s) (by omega) e11
      have eE : tkE b e s = run isL b e 401 s := by
        unfold tkE
        rw [if_pos c1, if_pos c2]
      have eK : tkK b e s = if 8 < run isL b e 401 s - s then 4 else 1 := by
        unfold tkK
        rw [if_pos c1, if_pos c2]
      rw [eE] at hE
      have e3 : rd μ3 78 10 = s := (d3.2 10 (by decide)).trans e10
      have hk : kr (tkK b e s) = if 8 < run isL b e 401 s - s then 1 else 2 := by
        rw [eK]
        unfold kr
        split <;> rfl
      have hk2 : kr (tkK b e s) = 1 ∨ kr (tkK b e s) = 2 := by
        rw [hk]
        split <;> omega
      refine ⟨up μ3 78 12 (kr (tkK b e s)), ?_, ⟨?_, ?_, ?_, fun q => ?_⟩, (f2.tr (d3.wk (by simp))).tr (Fo.up (by simp))⟩
      · rw [hk]
        simp (disch := omega) only [fX10_advance, a1, a2', Option.bind_some, qPf_eq, e10, e11, wr_id, if_pos, if_neg, eb, el, fX10_readWord, d1, d2, e3]
      · rw [rd_ni (by decide)]
        exact e3
      · rw [rd_ni (by decide), eE]
        exact d2
      · rw [rd_at]
        exact wr_id (by omega) (by omega)
      · rw [eK] at q
        split at q <;> omega
    · rw [if_neg c2] at el
      by_cases c3 : isD (b s) = true
      · rw [if_pos c3] at ed
        have e11' : rd (up (up μ1 78 10 s) 78 13 0) 78 11 = s := by
          rw [rd_ni (by decide)]
          exact e11
        have e10' : rd (up (up μ1 78 10 s) 78 13 0) 78 10 = s := by
          rw [rd_ni (by decide)]
          exact e10
        have f3 : Fo 78 [10, 11, 12, 13] (up μ1 78 10 s) (up (up μ1 78 10 s) 78 13 0) := Fo.up (by simp)
        obtain ⟨μ3, d1, d2, d4, d3⟩ := m_num hn (hT.kp f3 (by decide)) hb (p := s) (by omega) e11' e10' (by rw [rd_at]; rfl)
        have eE : tkE b e s = run isD b e 401 s := by
          unfold tkE
          rw [if_pos c1, if_neg c2, if_pos c3]
        have eK : tkK b e s = if 2 < run isD b e 401 s - s then 4 else 2 := by
          unfold tkK
          rw [if_pos c1, if_neg c2, if_pos c3]
        rw [eE] at hE
        have e3 : rd μ3 78 10 = s := (d3.2 10 (by decide)).trans e10'
        have hk : kr (tkK b e s) = if 2 < run isD b e 401 s - s then 1 else 3 := by
          rw [eK]
          unfold kr
          split <;> rfl
        have hk2 : kr (tkK b e s) = 1 ∨ kr (tkK b e s) = 3 := by
          rw [hk]
          split <;> omega
        refine ⟨up μ3 78 12 (kr (tkK b e s)), ?_, ⟨?_, ?_, ?_, fun q => ?_⟩, ((f2.tr f3).tr (d3.wk (by simp))).tr (Fo.up (by simp))⟩
        · rw [hk]
          simp (disch := omega) only [fX10_advance, a1, a2', Option.bind_some, qPf_eq, e10, e11, wr_id, if_pos, if_neg, eb, el, ed, fX10_readNumber, d1, d2, e3, ite_true]
        · rw [rd_ni (by decide)]
          exact e3
        · rw [rd_ni (by decide), eE]
          exact d2
        · rw [rd_at]
          exact wr_id (by omega) (by omega)
        · rw [rd_ni (by decide)]
          refine d4 ?_
          rw [eK] at q
          split at q <;> omega
      · rw [if_neg c3] at ed
        have eE : tkE b e s = s + 1 := by
          unfold tkE
          rw [if_pos c1, if_neg c2, if_neg c3]
        have eK : tkK b e s = if b s = 59 then 3 else 4 := by
          unfold tkK
          rw [if_pos c1, if_neg c2, if_neg c3]
        have hk : kr (tkK b e s) = if b s = 59 then 4 else 1 := by
          rw [eK]
          unfold kr
          split <;> rfl
        have hk2 : kr (tkK b e s) = 4 ∨ kr (tkK b e s) = 1 := by
          rw [hk]
          split <;> omega
        refine ⟨up (up (up μ1 78 10 s) 78 11 (s + 1)) 78 12 (kr (tkK b e s)), ?_, ⟨?_, ?_, ?_, fun q => ?_⟩, (f2.tr (Fo.up (by simp))).tr (Fo.up (by simp))⟩
        · rw [hk]
          simp (disch := omega) only [fX10_advance, a1, a2', Option.bind_some, qPf_eq, e10, e11, wr_id, if_pos, if_neg, eb, el, ed, ite_true]
        · rw [rd_ni (by decide), rd_ni (by decide)]
          exact e10
        · rw [rd_ni (by decide), rd_at, eE]
          exact wr_id (by omega) (by omega)
        · rw [rd_at]
          exact wr_id (by omega) (by omega)
        · rw [eK] at q
          split at q <;> omega
  · rw [if_neg c1] at eb
    have eE : tkE b e s = s := if_neg c1
    have eK : tkK b e s = 0 := if_neg c1
    refine ⟨up (up μ1 78 10 s) 78 12 0, ?_, ⟨?_, ?_, ?_, fun q => ?_⟩, f2.tr (Fo.up (by simp))⟩
    · simp (disch := omega) only [fX10_advance, a1, a2', Option.bind_some, qPf_eq, e10, e11, wr_id, if_pos, eb, ite_true]
    · rw [rd_ni (by decide)]
      exact e10
    · rw [rd_ni (by decide), eE]
      exact e11
    · rw [rd_at, eK]
      rfl
    · omega
end TOM
