/-! NUMBERS in both: the value when there are at most two digits -/
def nuj (b : Int → Int) (p j : Int) : Int := if j = 0 then 0 else if j = 1 then b p - 48 else 10 * (b p - 48) + b (p + 1) - 48
section NUM
variable {μ : qMu} {n : Nat} {b : Int → Int} {e p : Int}
theorem nuj_s (j : Int) (hj : j = 0 ∨ j = 1) : nuj b p (j + 1) = nuj b p j * 10 + b (p + j) - 48 := by
  unfold nuj
  rcases hj with rfl | rfl
  · rw [if_neg (by omega), if_pos (by omega), if_pos rfl, Int.add_zero]
    omega
  · rw [if_neg (by omega), if_neg (by omega), if_neg (by omega), if_pos rfl]
    omega
theorem x_digit {x : Int} (hx : -1 ≤ x ∧ x ≤ 255) : fX5_isDigit x μ = some (if isD x = true then 1 else 0) := by
  unfold isD
  by_cases c3 : 48 ≤ x
  · by_cases c4 : x ≤ 57
    · rw [decide_eq_true c3, decide_eq_true c4, if_pos (show (true && true) = true from rfl)]
      simp (disch := omega) only [fX5_isDigit, wr_id, if_neg]
    · rw [decide_eq_false c4, Bool.and_false, if_neg (by decide)]
      simp (disch := omega) only [fX5_isDigit, wr_id, if_neg, if_pos]
  · rw [decide_eq_false c3, Bool.false_and, if_neg (by decide)]
    simp (disch := omega) only [fX5_isDigit, wr_id, if_pos]
theorem nuj_r (hb : TB b e) {q : Int} (hp : 0 ≤ p) (hq : q ≤ e) (h2 : q - p ≤ 2) (h0 : p ≤ q) : -1000 ≤ nuj b p (q - p) ∧ nuj b p (q - p) ≤ 5000 := by
  unfold nuj
  by_cases c1 : q - p = 0
  · rw [if_pos c1]
    omega
  · rw [if_neg c1]
    have := hb.2 p hp (by omega)
    by_cases c2 : q - p = 1
    · rw [if_pos c2]
      omega
    · rw [if_neg c2]
      have := hb.2 (p + 1) (by omega) (by omega)
      omega
theorem x_num (hn : 5000 ≤ n) (h : TX μ b e) (hb : TB b e) (hp : 0 ≤ p ∧ p ≤ e) (h0 : rd μ 1 11 = p) (hv : rd μ 1 12 = 0) : ∃ μ', lp (fun x : qMu => bX5_takeNumber_5 n x) n μ = some μ' ∧ rd μ' 1 11 = run isD b e 401 p ∧ (run isD b e 401 p - p ≤ 2 → rd μ' 1 12 = nuj b p (run isD b e 401 p - p)) ∧ Fo 1 [11, 12] μ μ' := by
  have h1 := hb.1
  obtain ⟨y, r1, r2, r4, r3⟩ := lp_inv (f := fun x : qMu => bX5_takeNumber_5 n x) (fun k x => ∃ q, rd x 1 11 = q ∧ (p ≤ q ∧ q ≤ e) ∧ e - q < (k : Int) ∧ run isD b e k q = run isD b e 401 p ∧ (q - p ≤ 2 → rd x 1 12 = nuj b p (q - p)) ∧ Fo 1 [11, 12] μ x) (fun y => rd y 1 11 = run isD b e 401 p ∧ (run isD b e 401 p - p ≤ 2 → rd y 1 12 = nuj b p (run isD b e 401 p - p)) ∧ Fo 1 [11, 12] μ y) (by
    rintro k ξ ⟨q, h2, h3, h4, h5, h7, h6⟩
    obtain ⟨k, rfl⟩ : ∃ k', k = k' + 1 := ⟨k - 1, by omega⟩
    have hT := h.kp h6 (by decide)
    have hs : run isD b e (k + 1) q = if q < e ∧ isD (b q) = true then run isD b e k (q + 1) else q := rfl
    by_cases c1 : q < e
    · have hbq := hb.2 q (by omega) c1
      have eb := x_byteAt hT hb (i := q) (by omega)
      have el := x_digit (μ := ξ) (x := b q) (by omega)
      by_cases c2 : isD (b q) = true
      · right
        rw [if_pos c2] at el
        rw [hs, if_pos ⟨c1, c2⟩] at h5
        refine ⟨k, up (up ξ 1 12 (rd ξ 1 12 * 10 + b q - 48)) 1 11 (q + 1), ?_, by omega, q + 1, ?_, by omega, by omega, h5, fun hj => ?_, (h6.tr (Fo.up (by simp))).tr (Fo.up (by simp))⟩
        · have e11 : rd (up ξ 1 12 (rd ξ 1 12 * 10 + b q - 48)) 1 11 = q := by
            rw [rd_ni (by decide)]
            exact h2
          simp (disch := omega) only [bX5_takeNumber_5, h2, hT.1, wr_id, if_pos, if_neg, eb, el, Option.bind_some, qPf_eq, e11]
        · rw [rd_at]
          exact wr_id (by omega) (by omega)
        · have hj2 := h7 (by omega)
          have hr := nuj_r hb hp.1 (q := q) (by omega) (by omega) (by omega)
          rw [rd_ni (by decide), rd_at, hj2, wr_id (by omega) (by omega), show q + 1 - p = (q - p) + 1 by omega, nuj_s (q - p) (by omega), show p + (q - p) = q by omega]
      · left
        rw [if_neg c2] at el
        rw [hs, if_neg (fun q' => c2 q'.2)] at h5
        refine ⟨ξ, ?_, h2.trans h5, fun hj => ?_, h6⟩
        · simp (disch := omega) only [bX5_takeNumber_5, h2, hT.1, wr_id, if_pos, eb, el, Option.bind_some, ite_true]
        · rw [← h5] at hj ⊢
          exact h7 hj
    · left
      rw [hs, if_neg (fun q' => c1 q'.1)] at h5
      refine ⟨ξ, ?_, h2.trans h5, fun hj => ?_, h6⟩
      · simp (disch := omega) only [bX5_takeNumber_5, h2, hT.1, wr_id, if_neg]
      · rw [← h5] at hj ⊢
        exact h7 hj) n 401 μ ⟨p, h0, by omega, by omega, rfl, fun _ => by rw [hv, Int.sub_self]; rfl, Fo.rf _ _ _⟩ (by omega)
  exact ⟨y, r1, r2, r4, r3⟩
end NUM
