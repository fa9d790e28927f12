/-! degrees copied -/
def LK (μ : qMu) (A : Nat) (N : Int) (l : Int → Int) : Prop := ∀ i, 0 ≤ i → i < N → rd μ A i = l i
theorem Vd.zero {N : Int} (hN : 1 ≤ N ∧ N ≤ 8) : Vd N (fun _ _ => 0) := ⟨hN, fun _ _ => Int.le_refl _, fun _ _ => rfl, fun _ _ q => absurd rfl q, by show (0 : Int) ≤ 16; omega⟩
section BUI
variable {μ ν : qMu} {n q g : Nat} {N m md : Int} {d : Int → Int} {c t : Int → Int → Int}
theorem x_copyD (hn : 5000 ≤ n) (hN : 0 ≤ N ∧ N ≤ 8) (h0 : rd μ q 3 = N) (h1 : ∀ i, 0 ≤ i → i < N → rd μ (q + 1) i = d i) : ∃ μ', lp (fun x : Int × qMu => bX6_build_10 n q g md x.1 x.2) n (0, μ) = some μ' ∧ LK μ' (q + 3) N d ∧ Fr [q + 3] μ μ' := by
  obtain ⟨y, r1, r2, r3⟩ := lp_inv (f := fun x : Int × qMu => bX6_build_10 n q g md x.1 x.2) (fun k x => (x.1 = N - (k : Int) ∧ 0 ≤ x.1) ∧ LK x.2 (q + 3) x.1 d ∧ Fr [q + 3] μ x.2) (fun y => LK y (q + 3) N d ∧ Fr [q + 3] μ y) (by
    rintro k ⟨i, ξ⟩ ⟨⟨h4, h5⟩, h6, h7⟩
    dsimp only at h4 h5 h6 h7
    have e0 : rd ξ q 3 = N := (rd_cg (h7 q (by simp)) 3).trans h0
    by_cases hi : i < N
    · right
      have e1 : rd ξ (q + 1) i = d i := (rd_cg (h7 (q + 1) (by simp)) i).trans (h1 i h5 hi)
      refine ⟨k - 1, (i + 1, up ξ (q + 3) i (d i)), ?_, by omega, ⟨by dsimp only; omega, by dsimp only; omega⟩, fun j j1 j2 => ?_, h7.tr (Fr.up (by simp))⟩
      · simp (disch := omega) only [bX6_build_10, e0, wr_id, if_pos, qLd_in, e1, qSa_in, Option.bind_some]
      · dsimp only at j2 ⊢
        by_cases e : j = i
        · rw [e, rd_at, ← e1, wr_rd]
        · rw [rd_ni e]
          exact h6 j j1 (by omega)
    · left
      have hiN : i = N := by omega
      subst hiN
      refine ⟨ξ, ?_, h6, h7⟩
      simp (disch := omega) only [bX6_build_10, e0, wr_id, if_neg]) n N.toNat (0, μ) ⟨⟨by dsimp only; omega, Int.le_refl _⟩, fun j j1 j2 => by dsimp only at j2; omega, Fr.rf _ _⟩ (by omega)
  exact ⟨y, r1, r2, r3⟩
end BUI
