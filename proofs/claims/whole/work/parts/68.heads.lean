/-! POSSIBLE AND REALISE in both -/
theorem slk_r {o : Int → Int} {N k : Int} (hN : 0 ≤ N ∧ N ≤ 8) (ho : ∀ i, 0 ≤ i → i < N → 0 ≤ o i ∧ o i ≤ 1000) (hk : 0 ≤ k ∧ k ≤ 9) : -10000 ≤ slk o N k ∧ slk o N k ≤ 10000 := by
  have h1 : 0 ≤ k * (k - 1) ∧ k * (k - 1) ≤ 72 := by
    have : k = 0 ∨ k = 1 ∨ k = 2 ∨ k = 3 ∨ k = 4 ∨ k = 5 ∨ k = 6 ∨ k = 7 ∨ k = 8 ∨ k = 9 := by omega
    rcases this with rfl | rfl | rfl | rfl | rfl | rfl | rfl | rfl | rfl | rfl <;> decide
  have h2 := rs_le8 (f := fun i => if i < k then -(o i) else if o i < k then o i else k) (K := 1000) hN (by omega) (fun i i1 i2 => by
    have := ho i i1 i2
    by_cases q : i < k
    · rw [if_pos q]
      omega
    · rw [if_neg q]
      split <;> omega)
  have h3 := rs_le8 (f := fun i => -(if i < k then -(o i) else if o i < k then o i else k)) (K := 1000) hN (by omega) (fun i i1 i2 => by
    have := ho i i1 i2
    by_cases q : i < k
    · rw [if_pos q]
      omega
    · rw [if_neg q]
      split <;> omega)
  have h4 : rs (fun i => (if i < k then -(o i) else if o i < k then o i else k) + -(if i < k then -(o i) else if o i < k then o i else k)) 0 N = rs (fun i => if i < k then -(o i) else if o i < k then o i else k) 0 N + rs (fun i => -(if i < k then -(o i) else if o i < k then o i else k)) 0 N := rs_add
  have h5 : rs (fun i => (if i < k then -(o i) else if o i < k then o i else k) + -(if i < k then -(o i) else if o i < k then o i else k)) 0 N = 0 := rs_zero (fun i _ _ => Int.add_right_neg _)
  have h6 := rs_z N
  unfold slk
  omega
section REA
variable {μ ν : qMu} {n : Nat} {N m md : Int} {d : Int → Int} {c t : Int → Int → Int}
theorem x_hasNo (hn : 5000 ≤ n) (hN : 1 ≤ N ∧ N ≤ 8) (h : SQ μ 22 N.toNat d) (hd : ∀ i, 0 ≤ d i ∧ d i ≤ 1000) : ∃ b, fX6_hasNoNegativeSlack n 22 μ = some b ∧ (b = 1 ∧ (∀ k, 1 ≤ k → k ≤ N → 0 ≤ slk (srt d N.toNat) N k) ∨ b = 0 ∧ ¬ ∀ k, 1 ≤ k → k ≤ N → 0 ≤ slk (srt d N.toNat) N k) := by
  have eN : ((N.toNat : Nat) : Int) = N := by omega
  have h0 : rd μ 22 3 = N := h.1.trans eN
  obtain ⟨y, r1, r2⟩ := lp_inv (f := fun x : Int => bX6_hasNoNegativeSlack_2 n 22 x μ) (fun k z => (z = N + 1 - (k : Int) ∧ 1 ≤ z) ∧ ∀ k', 1 ≤ k' → k' < z → 0 ≤ slk (srt d N.toNat) N k') (fun y => y = .inl () ∧ (∀ k, 1 ≤ k → k ≤ N → 0 ≤ slk (srt d N.toNat) N k) ∨ y = .inr 0 ∧ ¬ ∀ k, 1 ≤ k → k ≤ N → 0 ≤ slk (srt d N.toNat) N k) (by
    rintro k z ⟨⟨h4, h5⟩, h6⟩
    by_cases hz : N < z
    · left
      refine ⟨.inl (), ?_, Or.inl ⟨rfl, fun k' k1 k2 => h6 k' k1 (by omega)⟩⟩
      simp (disch := omega) only [bX6_hasNoNegativeSlack_2, h0, wr_id, if_pos]
    · have hs := x_slackOf hn h (by omega) hd (k := z) (by omega)
      rw [eN] at hs
      have hr := slk_r (o := srt d N.toNat) (N := N) (k := z) (by omega) (fun i i1 i2 => srt_r d 1000 hd N.toNat i i1 (by omega)) (by omega)
      by_cases q : slk (srt d N.toNat) N z < 0
      · left
        refine ⟨.inr 0, ?_, Or.inr ⟨rfl, fun q' => by have := q' z h5 (by omega); omega⟩⟩
        simp (disch := omega) only [bX6_hasNoNegativeSlack_2, h0, wr_id, if_pos, if_neg, hs, Option.bind_some]
      · right
        refine ⟨k - 1, z + 1, ?_, by omega, ⟨by omega, by omega⟩, fun k' k1 k2 => ?_⟩
        · simp (disch := omega) only [bX6_hasNoNegativeSlack_2, h0, wr_id, if_neg, hs, Option.bind_some]
        · by_cases e : k' = z
          · rw [e]
            omega
          · exact h6 k' k1 (by omega)) n N.toNat 1 ⟨⟨by omega, by omega⟩, fun k' k1 k2 => by omega⟩ (by omega)
  rcases r2 with ⟨rfl, r2⟩ | ⟨rfl, r2⟩
  · refine ⟨1, ?_, Or.inl ⟨rfl, r2⟩⟩
    simp only [fX6_hasNoNegativeSlack, r1, Option.bind_some, Sum.elim_inl]
  · refine ⟨0, ?_, Or.inr ⟨rfl, r2⟩⟩
    simp only [fX6_hasNoNegativeSlack, r1, Option.bind_some, Sum.elim_inr]
theorem x_allows (hn : 5000 ≤ n) (hN : 1 ≤ N ∧ N ≤ 8) (h : SQ μ 22 N.toNat d) (hd : ∀ i, 0 ≤ d i ∧ d i ≤ 1000) (h32 : rs d 0 N ≤ 32) (he : rs d 0 N % 2 = 0) (hm : 0 ≤ md ∧ md ≤ 2) : ∃ b, fX6_allows n 22 md μ = some b ∧ (b = 1 ∧ pos md N d ∨ b = 0 ∧ ¬ pos md N d) := by
  have eN : ((N.toNat : Nat) : Int) = N := by omega
  have h0 : rd μ 22 3 = N := h.1.trans eN
  have h1 : rd μ 22 4 = rs d 0 N := by
    have := h.2.1
    rw [eN] at this
    exact this
  have hnn : 0 ≤ rs d 0 N := rs_nn (fun i _ _ => (hd i).1)
  have h2 : rd μ 24 0 = srt d N.toNat 0 := h.2.2.2 0 (by omega) (by omega)
  have h3 := srt_r d 1000 hd N.toNat 0 (by omega) (by omega)
  obtain ⟨-, dv⟩ := dv2 (k := rs d 0 N) (by omega)
  rw [he] at dv
  have hc : md = 0 ∨ md = 1 ∨ md = 2 := by omega
  rcases hc with rfl | rfl | rfl
  · refine ⟨1, ?_, Or.inl ⟨rfl, fun q => by omega, fun q => by omega⟩⟩
    simp (disch := omega) only [fX6_allows, h1, dv, wr_id, if_pos, if_neg, ite_true]
  · by_cases q : rs d 0 N - srt d N.toNat 0 < srt d N.toNat 0
    · refine ⟨0, ?_, Or.inr ⟨rfl, fun q' => by have := q'.1 rfl; omega⟩⟩
      simp (disch := omega) only [fX6_allows, h1, dv, wr_id, if_pos, if_neg, ite_true, h0, qLd_in, h2, Option.bind_some]
    · refine ⟨1, ?_, Or.inl ⟨rfl, fun _ => by omega, fun q => by omega⟩⟩
      simp (disch := omega) only [fX6_allows, h1, dv, wr_id, if_pos, if_neg, ite_true, h0, qLd_in, h2, Option.bind_some]
  · obtain ⟨b, q1, q2⟩ := x_hasNo hn hN h hd
    rcases q2 with ⟨rfl, q2⟩ | ⟨rfl, q2⟩
    · refine ⟨1, ?_, Or.inl ⟨rfl, fun q => by omega, fun _ => q2⟩⟩
      simp (disch := omega) only [fX6_allows, h1, dv, wr_id, if_pos, if_neg, ite_true, q1, Option.bind_some]
    · refine ⟨0, ?_, Or.inr ⟨rfl, fun q => q2 (q.2 rfl)⟩⟩
      simp (disch := omega) only [fX6_allows, h1, dv, wr_id, if_pos, if_neg, ite_true, q1, Option.bind_some]
theorem m_isPossibleIn (hn : 5000 ≤ n) (h : SM μ N m c t) (hV : Vd N c) (hm : 0 ≤ md ∧ md ≤ 2) : ∃ b μ', fX10_isPossibleIn n md μ = some (b, μ') ∧ Fr [86] μ μ' ∧ (b = 1 ∧ pos md N (dgs c) ∨ b = 0 ∧ ¬ pos md N (dgs c)) := by
  have hN := hV.N
  have eN : ((N.toNat : Nat) : Int) = N := by omega
  have hd : ∀ i, 0 ≤ dgs c i ∧ dgs c i ≤ 1000 := hV.dg1
  obtain ⟨μ1, a1, a2, a3⟩ := m_orders hn h hV
  have hS : SM μ1 N m c t := h.kp (a2 79 (by decide))
  have hh := hand hV
  have hE0 := hV.e0
  have hE1 := hV.2.2.2.2
  have h3 := srt_r (dgs c) 1000 hd N.toNat 0 (by omega) (by omega)
  have hc : md = 0 ∨ md = 1 ∨ md = 2 := by omega
  rcases hc with rfl | rfl | rfl
  · refine ⟨1, μ1, ?_, a2, Or.inl ⟨rfl, fun q => by omega, fun q => by omega⟩⟩
    simp (disch := omega) only [fX10_isPossibleIn, a1, Option.bind_some, wr_id, if_pos, ite_true]
  · have e0 := a3 0 (by omega) (by omega)
    by_cases q : 2 * Ed c < 2 * srt (dgs c) N.toNat 0
    · refine ⟨0, μ1, ?_, a2, Or.inr ⟨rfl, fun q' => by have := q'.1 rfl; omega⟩⟩
      simp (disch := omega) only [fX10_isPossibleIn, a1, Option.bind_some, wr_id, if_pos, if_neg, qLd_in, e0, m_edgesOf hn hS.2.2.1 (Or.inl rfl), ite_true]
    · refine ⟨1, μ1, ?_, a2, Or.inl ⟨rfl, fun _ => by omega, fun q => by omega⟩⟩
      simp (disch := omega) only [fX10_isPossibleIn, a1, Option.bind_some, wr_id, if_pos, if_neg, qLd_in, e0, m_edgesOf hn hS.2.2.1 (Or.inl rfl), ite_true]
  · obtain ⟨y, r1, r2⟩ := lp_inv (f := fun x : Int × Int => bX10_isPossibleIn_43 n x.1 x.2 μ1) (fun k x => (x.2 = N + 1 - (k : Int) ∧ 1 ≤ x.2) ∧ (x.1 = 1 ∧ (∀ k', 1 ≤ k' → k' < x.2 → 0 ≤ slk (srt (dgs c) N.toNat) N k') ∨ x.1 = 0 ∧ ¬ ∀ k, 1 ≤ k → k ≤ N → 0 ≤ slk (srt (dgs c) N.toNat) N k)) (fun y => y = 1 ∧ (∀ k, 1 ≤ k → k ≤ N → 0 ≤ slk (srt (dgs c) N.toNat) N k) ∨ y = 0 ∧ ¬ ∀ k, 1 ≤ k → k ≤ N → 0 ≤ slk (srt (dgs c) N.toNat) N k) (by
      rintro k ⟨f, z⟩ ⟨⟨h4, h5⟩, h6⟩
      dsimp only at h4 h5 h6
      by_cases hz : N < z
      · left
        refine ⟨f, ?_, ?_⟩
        · simp (disch := omega) only [bX10_isPossibleIn_43, hS.1, qLd_in, Option.bind_some, wr_id, if_pos]
        · rcases h6 with ⟨rfl, h6⟩ | ⟨rfl, h6⟩
          · exact Or.inl ⟨rfl, fun k' k1 k2 => h6 k' k1 (by omega)⟩
          · exact Or.inr ⟨rfl, h6⟩
      · right
        have hs := m_slackOf hn hS.1 hN a3 (fun i i1 i2 => srt_r (dgs c) 1000 hd N.toNat i i1 (by omega)) (k := z) (by omega)
        have hr := slk_r (o := srt (dgs c) N.toNat) (N := N) (k := z) (by omega) (fun i i1 i2 => srt_r (dgs c) 1000 hd N.toNat i i1 (by omega)) (by omega)
        rcases h6 with ⟨rfl, h6⟩ | ⟨rfl, h6⟩
        · by_cases q : slk (srt (dgs c) N.toNat) N z < 0
          · refine ⟨k - 1, (0, z + 1), ?_, by omega, ⟨by dsimp only; omega, by dsimp only; omega⟩, Or.inr ⟨rfl, fun q' => by have := q' z h5 (by omega); omega⟩⟩
            simp (disch := omega) only [bX10_isPossibleIn_43, hS.1, qLd_in, Option.bind_some, wr_id, if_pos, if_neg, hs]
          · refine ⟨k - 1, (1, z + 1), ?_, by omega, ⟨by dsimp only; omega, by dsimp only; omega⟩, Or.inl ⟨rfl, fun k' k1 k2 => ?_⟩⟩
            · simp (disch := omega) only [bX10_isPossibleIn_43, hS.1, qLd_in, Option.bind_some, wr_id, if_neg, hs]
            · dsimp only at k2
              by_cases e : k' = z
              · rw [e]
                omega
              · exact h6 k' k1 (by omega)
        · refine ⟨k - 1, (0, z + 1), ?_, by omega, ⟨by dsimp only; omega, by dsimp only; omega⟩, Or.inr ⟨rfl, h6⟩⟩
          simp (disch := omega) only [bX10_isPossibleIn_43, hS.1, qLd_in, Option.bind_some, wr_id, if_pos, if_neg, ite_true]) n N.toNat (1, 1) ⟨⟨by dsimp only; omega, by omega⟩, Or.inl ⟨rfl, fun k' k1 k2 => by dsimp only at k2; omega⟩⟩ (by omega)
    rcases r2 with ⟨rfl, r2⟩ | ⟨rfl, r2⟩
    · refine ⟨1, μ1, ?_, a2, Or.inl ⟨rfl, fun q => by omega, fun _ => r2⟩⟩
      simp (disch := omega) only [fX10_isPossibleIn, a1, Option.bind_some, wr_id, if_neg, r1]
      rfl
    · refine ⟨0, μ1, ?_, a2, Or.inr ⟨rfl, fun q => r2 (q.2 rfl)⟩⟩
      simp (disch := omega) only [fX10_isPossibleIn, a1, Option.bind_some, wr_id, if_neg, r1]
      rfl
end REA
