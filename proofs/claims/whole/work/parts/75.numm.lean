section NUN
variable {μ : qMu} {n : Nat} {b : Int → Int} {e p : Int}
theorem m_num (hn : 5000 ≤ n) (h : TM μ b e) (hb : TB b e) (hp : 0 ≤ p ∧ p ≤ e) (h0 : rd μ 78 11 = p) (h10 : rd μ 78 10 = p) (hv : rd μ 78 13 = 0) : ∃ μ', lp (fun x : qMu => bX10_readNumber_5 n x) n μ = some μ' ∧ rd μ' 78 11 = run isD b e 401 p ∧ (run isD b e 401 p - p ≤ 2 → rd μ' 78 13 = nuj b p (run isD b e 401 p - p)) ∧ Fo 78 [11, 13] μ μ' := by
  have h1 := hb.1
  obtain ⟨y, r1, r2, r4, r3⟩ := lp_inv (f := fun x : qMu => bX10_readNumber_5 n x) (fun k x => ∃ q, rd x 78 11 = q ∧ (p ≤ q ∧ q ≤ e) ∧ e - q < (k : Int) ∧ run isD b e k q = run isD b e 401 p ∧ (q - p ≤ 2 → rd x 78 13 = nuj b p (q - p)) ∧ Fo 78 [11, 13] μ x) (fun y => rd y 78 11 = run isD b e 401 p ∧ (run isD b e 401 p - p ≤ 2 → rd y 78 13 = nuj b p (run isD b e 401 p - p)) ∧ Fo 78 [11, 13] μ y) (by
    rintro k ξ ⟨q, h2, h3, h4, h5, h7, h6⟩
    obtain ⟨k, rfl⟩ : ∃ k', k = k' + 1 := ⟨k - 1, by omega⟩
    have hT := h.kp h6 (by decide)
    have e10 : rd ξ 78 10 = p := (h6.2 10 (by decide)).trans h10
    have eb := m_byteAt hT hb (i := q) (by omega)
    have hs : run isD b e (k + 1) q = if q < e ∧ isD (b q) = true then run isD b e k (q + 1) else q := rfl
    by_cases c1 : q < e
    · have hbq := hb.2 q (by omega) c1
      rw [if_pos c1] at eb
      have el := m_digit (μ := ξ) (x := b q) (by omega)
      by_cases c2 : isD (b q) = true
      · right
        rw [if_pos c2] at el
        rw [hs, if_pos ⟨c1, c2⟩] at h5
        by_cases c3 : q - p < 2
        · have e11 : rd (up ξ 78 13 (10 * rd ξ 78 13 + b q - 48)) 78 11 = q := by
            rw [rd_ni (by decide)]
            exact h2
          refine ⟨k, up (up ξ 78 13 (10 * rd ξ 78 13 + b q - 48)) 78 11 (q + 1), ?_, by omega, q + 1, ?_, by omega, by omega, h5, fun hj => ?_, (h6.tr (Fo.up (by simp))).tr (Fo.up (by simp))⟩
          · simp (disch := omega) only [bX10_readNumber_5, h2, e10, wr_id, if_pos, if_neg, eb, el, Option.bind_some, qPf_eq, e11]
          · rw [rd_at]
            exact wr_id (by omega) (by omega)
          · have hj2 := h7 (by omega)
            have hr := nuj_r hb hp.1 (q := q) (by omega) (by omega) (by omega)
            rw [rd_ni (by decide), rd_at, hj2, wr_id (by omega) (by omega), show q + 1 - p = (q - p) + 1 by omega, nuj_s (q - p) (by omega), show p + (q - p) = q by omega, Int.mul_comm]
        · have e11 : rd (up ξ 78 13 (rd ξ 78 13)) 78 11 = q := by
            rw [rd_ni (by decide)]
            exact h2
          refine ⟨k, up (up ξ 78 13 (rd ξ 78 13)) 78 11 (q + 1), ?_, by omega, q + 1, ?_, by omega, by omega, h5, fun hj => by omega, (h6.tr (Fo.up (by simp))).tr (Fo.up (by simp))⟩
          · simp (disch := omega) only [bX10_readNumber_5, h2, e10, wr_id, if_neg, eb, el, Option.bind_some, qPf_eq, e11]
          · rw [rd_at]
            exact wr_id (by omega) (by omega)
      · left
        rw [if_neg c2] at el
        rw [hs, if_neg (fun q' => c2 q'.2)] at h5
        refine ⟨ξ, ?_, h2.trans h5, fun hj => ?_, h6⟩
        · simp (disch := omega) only [bX10_readNumber_5, h2, wr_id, if_pos, eb, el, Option.bind_some, ite_true]
        · rw [← h5] at hj ⊢
          exact h7 hj
    · left
      rw [if_neg c1] at eb
      have el := m_digit (μ := ξ) (x := -1) (by omega)
      rw [if_neg (by decide)] at el
      rw [hs, if_neg (fun q' => c1 q'.1)] at h5
      refine ⟨ξ, ?_, h2.trans h5, fun hj => ?_, h6⟩
      · simp (disch := omega) only [bX10_readNumber_5, h2, wr_id, if_pos, eb, el, Option.bind_some, ite_true]
      · rw [← h5] at hj ⊢
        exact h7 hj) n 401 μ ⟨p, h0, by omega, by omega, rfl, fun _ => by rw [hv, Int.sub_self]; rfl, Fo.rf _ _ _⟩ (by omega)
  exact ⟨y, r1, r2, r4, r3⟩
end NUN
