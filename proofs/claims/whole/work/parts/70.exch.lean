/-! EXCHANGE, COPY in the reference -/
section EXC
variable {μ : qMu} {n : Nat} {N m : Int} {c t : Int → Int → Int}
theorem m_exch (hn : 5000 ≤ n) (h : SM μ N m c t) : ∃ μ', lp (fun x : Int × qMu => bX10_exchange_11 n x.1 x.2) n (0, μ) = some μ' ∧ SM μ' N m t c ∧ Fr [79] μ μ' := by
  obtain ⟨y, r1, r2, r3, r4, r5⟩ := lp_inv (f := fun x : Int × qMu => bX10_exchange_11 n x.1 x.2) (fun k x => (x.1 = 64 - (k : Int) ∧ 0 ≤ x.1) ∧ Fr [79] μ x.2 ∧ (∀ i, 0 ≤ i → i < x.1 → rd x.2 79 (2 + i) = rd μ 79 (66 + i) ∧ rd x.2 79 (66 + i) = rd μ 79 (2 + i)) ∧ (∀ i, x.1 ≤ i → i < 64 → rd x.2 79 (2 + i) = rd μ 79 (2 + i) ∧ rd x.2 79 (66 + i) = rd μ 79 (66 + i)) ∧ ∀ i, i < 2 → rd x.2 79 i = rd μ 79 i) (fun y => Fr [79] μ y ∧ (∀ i, 0 ≤ i → i < 64 → rd y 79 (2 + i) = rd μ 79 (66 + i) ∧ rd y 79 (66 + i) = rd μ 79 (2 + i)) ∧ (∀ i, i < 2 → rd y 79 i = rd μ 79 i) ∧ True) (by
    rintro k ⟨i, ξ⟩ ⟨⟨h4, h5⟩, h6, h7, h8, h9⟩
    dsimp only at h4 h5 h6 h7 h8 h9
    by_cases hi : i < 64
    · right
      obtain ⟨e1, e2⟩ := h8 i (Int.le_refl _) hi
      refine ⟨k - 1, (i + 1, up (up ξ 79 (2 + i) (rd μ 79 (66 + i))) 79 (66 + i) (rd μ 79 (2 + i))), ?_, by omega, ⟨by dsimp only; omega, by dsimp only; omega⟩, (h6.tr (Fr.up (by simp))).tr (Fr.up (by simp)), fun j j1 j2 => ?_, fun j j1 j2 => ?_, fun j j1 => ?_⟩
      · simp (disch := omega) only [bX10_exchange_11, wr_id, if_pos, qLd_in, qSa_in, Option.bind_some, e1, e2]
      · dsimp only at j2 ⊢
        by_cases q : j = i
        · rw [q, rd_ni (show 2 + i ≠ 66 + i by omega), rd_at, rd_at, wr_rd, wr_rd]
          exact ⟨rfl, rfl⟩
        · rw [rd_ni (show 2 + j ≠ 66 + i by omega), rd_ni (show 2 + j ≠ 2 + i by omega), rd_ni (show 66 + j ≠ 66 + i by omega), rd_ni (show 66 + j ≠ 2 + i by omega)]
          exact h7 j j1 (by omega)
      · dsimp only at j1 ⊢
        rw [rd_ni (show 2 + j ≠ 66 + i by omega), rd_ni (show 2 + j ≠ 2 + i by omega), rd_ni (show 66 + j ≠ 66 + i by omega), rd_ni (show 66 + j ≠ 2 + i by omega)]
        exact h8 j (by omega) j2
      · dsimp only
        rw [rd_ni (by omega), rd_ni (by omega)]
        exact h9 j j1
    · left
      refine ⟨ξ, ?_, h6, fun j j1 j2 => h7 j j1 (by omega), h9, trivial⟩
      simp (disch := omega) only [bX10_exchange_11, wr_id, if_neg]) n 64 (0, μ) ⟨⟨rfl, Int.le_refl _⟩, Fr.rf _ _, fun j j1 j2 => by dsimp only at j2; omega, fun j _ _ => ⟨rfl, rfl⟩, fun j _ => rfl⟩ (by omega)
  refine ⟨y, r1, ⟨(r4 0 (by omega)).trans h.1, (r4 1 (by omega)).trans h.2.1, fun u v hu hv => ?_, fun u v hu hv => ?_⟩, r2⟩
  · have := (r3 (8 * u + v) (by omega) (by omega)).1
    rw [show 2 + 8 * u + v = 2 + (8 * u + v) by omega, this, show 66 + (8 * u + v) = 66 + 8 * u + v by omega]
    exact h.2.2.2 u v hu hv
  · have := (r3 (8 * u + v) (by omega) (by omega)).2
    rw [show 66 + 8 * u + v = 66 + (8 * u + v) by omega, this, show 2 + (8 * u + v) = 2 + 8 * u + v by omega]
    exact h.2.2.1 u v hu hv
theorem m_copy {w : Int} (hn : 5000 ≤ n) (h : SM μ N m c t) : ∃ μ', lp (fun x : Int × qMu => bX10_copyToTarget_16 n w x.1 x.2) n (0, μ) = some μ' ∧ SM μ' N m c c ∧ Fr [79] μ μ' := by
  obtain ⟨y, r1, r2, r3, r4⟩ := lp_inv (f := fun x : Int × qMu => bX10_copyToTarget_16 n w x.1 x.2) (fun k x => (x.1 = 64 - (k : Int) ∧ 0 ≤ x.1) ∧ Fr [79] μ x.2 ∧ (∀ i, 0 ≤ i → i < x.1 → rd x.2 79 (66 + i) = rd μ 79 (2 + i)) ∧ ∀ i, i < 66 → rd x.2 79 i = rd μ 79 i) (fun y => Fr [79] μ y ∧ (∀ i, 0 ≤ i → i < 64 → rd y 79 (66 + i) = rd μ 79 (2 + i)) ∧ ∀ i, i < 66 → rd y 79 i = rd μ 79 i) (by
    rintro k ⟨i, ξ⟩ ⟨⟨h4, h5⟩, h6, h7, h9⟩
    dsimp only at h4 h5 h6 h7 h9
    by_cases hi : i < 64
    · right
      have e1 := h9 (2 + i) (by omega)
      refine ⟨k - 1, (i + 1, up ξ 79 (66 + i) (rd μ 79 (2 + i))), ?_, by omega, ⟨by dsimp only; omega, by dsimp only; omega⟩, h6.tr (Fr.up (by simp)), fun j j1 j2 => ?_, fun j j1 => ?_⟩
      · simp (disch := omega) only [bX10_copyToTarget_16, wr_id, if_pos, qLd_in, qSa_in, Option.bind_some, e1]
      · dsimp only at j2 ⊢
        by_cases q : j = i
        · rw [q, rd_at, wr_rd]
        · rw [rd_ni (by omega)]
          exact h7 j j1 (by omega)
      · dsimp only
        rw [rd_ni (by omega)]
        exact h9 j j1
    · left
      refine ⟨ξ, ?_, h6, fun j j1 j2 => h7 j j1 (by omega), h9⟩
      simp (disch := omega) only [bX10_copyToTarget_16, wr_id, if_neg]) n 64 (0, μ) ⟨⟨rfl, Int.le_refl _⟩, Fr.rf _ _, fun j j1 j2 => by dsimp only at j2; omega, fun j _ => rfl⟩ (by omega)
  refine ⟨y, r1, ⟨(r4 0 (by omega)).trans h.1, (r4 1 (by omega)).trans h.2.1, fun u v hu hv => (r4 _ (by omega)).trans (h.2.2.1 u v hu hv), fun u v hu hv => ?_⟩, r2⟩
  have := r3 (8 * u + v) (by omega) (by omega)
  rw [show 66 + 8 * u + v = 66 + (8 * u + v) by omega, this, show 2 + (8 * u + v) = 2 + 8 * u + v by omega]
  exact h.2.2.1 u v hu hv
end EXC
