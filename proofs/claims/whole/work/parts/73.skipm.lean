section SKM
variable {μ : qMu} {n : Nat} {b : Int → Int} {e p : Int}
theorem m_skip (hn : 5000 ≤ n) (h : TM μ b e) (hb : TB b e) (hp : 0 ≤ p ∧ p ≤ e) (h0 : rd μ 78 11 = p) : ∃ μ', lp (fun x : qMu => bX10_advance_0 n x) n μ = some μ' ∧ rd μ' 78 11 = run isB b e 401 p ∧ Fo 78 [11] μ μ' := by
  have h1 := hb.1
  obtain ⟨y, r1, r2, r3⟩ := lp_inv (f := fun x : qMu => bX10_advance_0 n x) (fun k x => ∃ q, rd x 78 11 = q ∧ (0 ≤ q ∧ q ≤ e) ∧ e - q < (k : Int) ∧ run isB b e k q = run isB b e 401 p ∧ Fo 78 [11] μ x) (fun y => rd y 78 11 = run isB b e 401 p ∧ Fo 78 [11] μ y) (by
    rintro k ξ ⟨q, h2, h3, h4, h5, h6⟩
    obtain ⟨k, rfl⟩ : ∃ k', k = k' + 1 := ⟨k - 1, by omega⟩
    have hT := h.kp h6 (by decide)
    have eb := m_byteAt hT hb (i := q) (by omega)
    have hs : run isB b e (k + 1) q = if q < e ∧ isB (b q) = true then run isB b e k (q + 1) else q := rfl
    by_cases c1 : q < e
    · have hbq := hb.2 q h3.1 c1
      rw [if_pos c1] at eb
      by_cases c2 : b q = 32 ∨ b q = 10
      · right
        have eB : isB (b q) = true := by
          unfold isB
          rcases c2 with c2 | c2 <;> rw [c2] <;> rfl
        rw [hs, if_pos ⟨c1, eB⟩] at h5
        refine ⟨k, up ξ 78 11 (q + 1), ?_, by omega, q + 1, ?_, by omega, by omega, h5, h6.tr (Fo.up (by simp))⟩
        · rcases c2 with c2 | c2
          · simp (disch := omega) only [bX10_advance_0, h2, wr_id, if_pos, eb, Option.bind_some, qPf_eq]
          · simp (disch := omega) only [bX10_advance_0, h2, wr_id, if_pos, if_neg, eb, Option.bind_some, qPf_eq]
        · rw [rd_at]
          exact wr_id (by omega) (by omega)
      · left
        have eB : isB (b q) = false := by
          unfold isB
          rw [decide_eq_false (by omega), decide_eq_false (by omega)]
          rfl
        rw [hs, if_neg (by rw [eB]; rintro ⟨-, q'⟩; cases q')] at h5
        refine ⟨ξ, ?_, h2.trans h5, h6⟩
        simp (disch := omega) only [bX10_advance_0, h2, wr_id, if_neg, eb, Option.bind_some]
    · left
      rw [if_neg c1] at eb
      rw [hs, if_neg (fun q' => c1 q'.1)] at h5
      refine ⟨ξ, ?_, h2.trans h5, h6⟩
      simp (disch := omega) only [bX10_advance_0, h2, wr_id, if_neg, eb, Option.bind_some]) n 401 μ ⟨p, h0, hp, by omega, rfl, Fo.rf _ _ _⟩ (by omega)
  exact ⟨y, r1, r2, r3⟩
theorem m_letter {x : Int} (hx : -1 ≤ x ∧ x ≤ 255) : fX10_isLetter x μ = some (if isL x = true then 1 else 0) := by
  unfold isL
  by_cases c3 : 97 ≤ x
  · by_cases c4 : x ≤ 122
    · rw [decide_eq_true c3, decide_eq_true c4, if_pos (show (true && true) = true from rfl)]
      simp (disch := omega) only [fX10_isLetter, wr_id, if_neg]
    · rw [decide_eq_false c4, Bool.and_false, if_neg (by decide)]
      simp (disch := omega) only [fX10_isLetter, wr_id, if_neg, if_pos]
  · rw [decide_eq_false c3, Bool.false_and, if_neg (by decide)]
    simp (disch := omega) only [fX10_isLetter, wr_id, if_pos]
theorem m_word (hn : 5000 ≤ n) (h : TM μ b e) (hb : TB b e) (hp : 0 ≤ p ∧ p ≤ e) (h0 : rd μ 78 11 = p) : ∃ μ', lp (fun x : qMu => bX10_readWord_0 n x) n μ = some μ' ∧ rd μ' 78 11 = run isL b e 401 p ∧ Fo 78 [11] μ μ' := by
  have h1 := hb.1
  obtain ⟨y, r1, r2, r3⟩ := lp_inv (f := fun x : qMu => bX10_readWord_0 n x) (fun k x => ∃ q, rd x 78 11 = q ∧ (0 ≤ q ∧ q ≤ e) ∧ e - q < (k : Int) ∧ run isL b e k q = run isL b e 401 p ∧ Fo 78 [11] μ x) (fun y => rd y 78 11 = run isL b e 401 p ∧ Fo 78 [11] μ y) (by
    rintro k ξ ⟨q, h2, h3, h4, h5, h6⟩
    obtain ⟨k, rfl⟩ : ∃ k', k = k' + 1 := ⟨k - 1, by omega⟩
    have hT := h.kp h6 (by decide)
    have eb := m_byteAt hT hb (i := q) (by omega)
    have hs : run isL b e (k + 1) q = if q < e ∧ isL (b q) = true then run isL b e k (q + 1) else q := rfl
    by_cases c1 : q < e
    · have hbq := hb.2 q h3.1 c1
      rw [if_pos c1] at eb
      have el := m_letter (μ := ξ) (x := b q) (by omega)
      by_cases c2 : isL (b q) = true
      · right
        rw [if_pos c2] at el
        rw [hs, if_pos ⟨c1, c2⟩] at h5
        refine ⟨k, up ξ 78 11 (q + 1), ?_, by omega, q + 1, ?_, by omega, by omega, h5, h6.tr (Fo.up (by simp))⟩
        · simp (disch := omega) only [bX10_readWord_0, h2, wr_id, if_neg, eb, el, Option.bind_some, qPf_eq]
        · rw [rd_at]
          exact wr_id (by omega) (by omega)
      · left
        rw [if_neg c2] at el
        rw [hs, if_neg (fun q' => c2 q'.2)] at h5
        refine ⟨ξ, ?_, h2.trans h5, h6⟩
        simp (disch := omega) only [bX10_readWord_0, h2, wr_id, if_pos, eb, el, Option.bind_some, ite_true]
    · left
      rw [if_neg c1] at eb
      have el := m_letter (μ := ξ) (x := -1) (by omega)
      rw [if_neg (by decide)] at el
      rw [hs, if_neg (fun q' => c1 q'.1)] at h5
      refine ⟨ξ, ?_, h2.trans h5, h6⟩
      simp (disch := omega) only [bX10_readWord_0, h2, wr_id, if_pos, eb, el, Option.bind_some, ite_true]) n 401 μ ⟨p, h0, hp, by omega, rfl, Fo.rf _ _ _⟩ (by omega)
  exact ⟨y, r1, r2, r3⟩
end SKM
