/-! what is told of components -/
theorem lab_ex {N : Int} {c : Int → Int → Int} (hV : Vd N c) : ∃ s, Lab N c s := by
  have hN := hV.N
  have hX : GX (fun a i => if a = 3 then Int32.ofInt N else Int32.ofInt (c (i / 8) (i % 8))) 3 N c := by
    refine ⟨?_, fun u v hu hv => ?_⟩
    · exact wr_id (by omega) (by omega)
    · show wr (c ((u * 8 + v) / 8) ((u * 8 + v) % 8)) = c u v
      rw [show (u * 8 + v) / 8 = u by omega, show (u * 8 + v) % 8 = v by omega]
      exact hV.w u v
  obtain ⟨μ', -, -, -, h⟩ := x_find (n := 5000) (Nat.le_refl _) hX hV (by decide)
  exact ⟨_, h⟩
noncomputable def Lb (N : Int) (c : Int → Int → Int) : Int → Int := Classical.epsilon (fun s => Lab N c s)
theorem Lb_ok {N : Int} {c : Int → Int → Int} (hV : Vd N c) : Lab N c (Lb N c) := Classical.epsilon_spec (lab_ex hV)
noncomputable def nco (N : Int) (c : Int → Int → Int) : Int := idx (Lb N c) N
noncomputable def cmp (N : Int) (c : Int → Int → Int) (v : Int) : Int := idx (Lb N c) (Lb N c v)
noncomputable def cwe (N : Int) (c : Int → Int → Int) : Int := rs (fun v => if Lb N c v = v ∧ 0 < dgs c v then 1 else 0) 0 N
theorem idx_cg {s s' : Int → Int} {N v : Int} (h : ∀ w, (0 ≤ w ∧ w < N) → s w = s' w) (hv : v ≤ N) : idx s v = idx s' v := rs_congr (fun k h1 h2 => by rw [h k ⟨h1, by omega⟩])
section CNT
variable {μ : qMu} {n : Nat} {N m : Int} {c t : Int → Int → Int}
theorem x_countBefore (hn : 5000 ≤ n) (hN : 1 ≤ N ∧ N ≤ 8) (h : rd μ 19 2 = N) {e : Int} (he : 0 ≤ e ∧ e ≤ N) : fX4_countBefore n e μ = some (idx (fun v => rd μ 20 v) e) := by
  have hb : ∀ z k, 0 ≤ k → k < e → bX4_countBefore_4 n e z k μ = some (.inl (z + (if rd μ 20 k = k then 1 else 0), k + 1)) := by
    intro z k h1 h2
    simp (disch := omega) only [bX4_countBefore_4, h, wr_id, wr_rd, if_pos, qLd_in, Option.bind_some]
    by_cases h3 : rd μ 20 k = k
    · rw [if_pos h3, if_pos h3]
    · rw [if_neg h3, if_neg h3, Int.add_zero]
  have he' : ∀ z, bX4_countBefore_4 n e z e μ = some (.inr z) := by
    intro z
    simp (disch := omega) only [bX4_countBefore_4, wr_id, if_neg]
  simp only [fX4_countBefore]
  rw [lp_rs2 0 hb he' (by omega) (by omega) (by omega), Int.zero_add]
  rfl
theorem x_parts {g : Nat} (hn : 5000 ≤ n) (h : GX μ g N c) (hV : Vd N c) (hg : g ≠ 19 ∧ g ≠ 20 ∧ g + 1 ≠ 19 ∧ g + 1 ≠ 20) : ∃ μ', fX4_find n g μ = some μ' ∧ Fr [19, 20] μ μ' ∧ (∀ v, (0 ≤ v ∧ v < N) → rd μ' 20 v = Lb N c v) ∧ fX4_count n μ' = some (nco N c) ∧ (∀ v, (0 ≤ v ∧ v < N) → fX4_numberOf n v μ' = some (cmp N c v)) ∧ fX4_countWithEdges n g μ' = some (cwe N c) := by
  have hN := hV.N
  obtain ⟨μ', h1, h2, h3, h4⟩ := x_find hn h hV hg
  have h5 : ∀ v, (0 ≤ v ∧ v < N) → rd μ' 20 v = Lb N c v := fun v hv => h4.uniq (Lb_ok hV) hv
  have hX : GX μ' g N c := h.kp (h2 g (by simp; omega)) (h2 (g + 1) (by simp; omega))
  refine ⟨μ', h1, h2, h5, ?_, fun v hv => ?_, ?_⟩
  · simp only [fX4_count, h3]
    rw [x_countBefore hn hN h3 (by omega)]
    show some _ = _
    rw [idx_cg h5 (Int.le_refl _)]
    rfl
  · have hv2 := h4.1 v hv
    dsimp only at hv2
    simp (disch := omega) only [fX4_numberOf, qLd_in, Option.bind_some]
    rw [x_countBefore hn hN h3 (by omega)]
    show some _ = _
    rw [idx_cg h5 (by omega), h5 v hv]
    rfl
  · have hb : ∀ z k, 0 ≤ k → k < N → bX4_countWithEdges_4 n g z k μ' = some (.inl (z + (if Lb N c k = k ∧ 0 < dgs c k then 1 else 0), k + 1)) := by
      intro z k q1 q2
      simp (disch := omega) only [bX4_countWithEdges_4, h3, wr_id, wr_rd, if_pos, qLd_in, Option.bind_some, h5, x_degreeOf hn hX hV, hV.dw]
      rw [← h5 k ⟨q1, q2⟩, wr_rd, h5 k ⟨q1, q2⟩]
      by_cases q3 : Lb N c k = k
      · rw [if_pos q3]
        by_cases q4 : 0 < dgs c k
        · rw [if_pos q4, if_pos ⟨q3, q4⟩]
          rfl
        · rw [if_neg q4, if_neg (fun q => q4 q.2), Int.add_zero]
          rfl
      · rw [if_neg q3, if_neg (fun q => q3 q.1), Int.add_zero]
        rfl
    have he' : ∀ z, bX4_countWithEdges_4 n g z N μ' = some (.inr z) := by
      intro z
      simp (disch := omega) only [bX4_countWithEdges_4, h3, wr_id, if_neg]
    simp only [fX4_countWithEdges]
    rw [lp_rs2 0 hb he' (by omega) (by omega) (by omega), Int.zero_add]
    rfl
theorem x_partsWithEdges {g : Nat} (hn : 5000 ≤ n) (h : GX μ g N c) (hV : Vd N c) (hg : g ≠ 19 ∧ g ≠ 20 ∧ g + 1 ≠ 19 ∧ g + 1 ≠ 20) : ∃ μ', fX9_partsWithEdges n g μ = some (cwe N c, μ') ∧ Fr [19, 20] μ μ' := by
  obtain ⟨μ', h1, h2, h3, h4, h5, h6⟩ := x_parts hn h hV hg
  refine ⟨μ', ?_, h2⟩
  simp only [fX9_partsWithEdges, h1, h6, Option.bind_some]
theorem cwe_r (hN : 1 ≤ N ∧ N ≤ 8) : 0 ≤ cwe N c ∧ cwe N c ≤ 8 := by
  have h0 : 0 ≤ cwe N c := rs_nn (fun k _ _ => by split <;> omega)
  have h1 : cwe N c ≤ rs (fun _ => (1 : Int)) 0 N := rs_le (fun k _ _ => by split <;> omega)
  have h2 : ∀ l : Nat, ∀ a : Int, sl (fun _ => (1 : Int)) a l = (l : Int) := by
    intro l
    induction l with
    | zero => intro a; rfl
    | succ l ih => intro a; unfold sl; rw [ih]; omega
  have h3 : rs (fun _ => (1 : Int)) 0 N = N := by
    unfold rs
    rw [h2]
    omega
  omega
theorem m_parts (hn : 5000 ≤ n) (h : SM μ N m c t) (hV : Vd N c) : ∃ μ', fX10_laysParts n μ = some (nco N c, μ') ∧ Fr [84] μ μ' ∧ ∀ v, (0 ≤ v ∧ v < N) → rd μ' 84 v = cmp N c v :=
  m_laysParts hn h hV (Lb_ok hV)
theorem m_partsWithEdges (hn : 5000 ≤ n) (h : SM μ N m c t) (hV : Vd N c) : ∃ μ', fX10_partsWithEdges n μ = some (cwe N c, μ') ∧ Fr [84] μ μ' := by
  have hN := hV.N
  obtain ⟨μ', h1, h2, h3⟩ := m_parts hn h hV
  have hSM : SM μ' N m c t := h.kp (h2 79 (by decide))
  have hL := Lb_ok hV
  have hn1 := idx_nn (Lb N c) N
  have hn2 := idx_le (Lb N c) (by omega : 0 ≤ N)
  -- of one component
  have one : ∀ p, 0 ≤ p → p < nco N c → ∃ b, lp (fun x : Int × Int => bX10_partsWithEdges_20 n (nco N c) 0 p x.1 x.2 μ') n (0, 0) = some b ∧ (b = 1 ∧ (∃ u, (0 ≤ u ∧ u < N) ∧ cmp N c u = p ∧ 0 < dgs c u) ∨ b = 0 ∧ ∀ u, (0 ≤ u ∧ u < N) → cmp N c u = p → ¬ 0 < dgs c u) := by
    intro p hp0 hp1
    have hp8 : p ≤ 8 := by
      have : nco N c = idx (Lb N c) N := rfl
      omega
    obtain ⟨b, r1, r2⟩ := lp_inv (f := fun x : Int × Int => bX10_partsWithEdges_20 n (nco N c) 0 p x.1 x.2 μ') (fun k x => (x.2 = N - (k : Int) ∧ 0 ≤ x.2) ∧ (x.1 = 1 ∧ (∃ u, (0 ≤ u ∧ u < N) ∧ cmp N c u = p ∧ 0 < dgs c u) ∨ x.1 = 0 ∧ ∀ u, (0 ≤ u ∧ u < x.2) → cmp N c u = p → ¬ 0 < dgs c u)) (fun b => b = 1 ∧ (∃ u, (0 ≤ u ∧ u < N) ∧ cmp N c u = p ∧ 0 < dgs c u) ∨ b = 0 ∧ ∀ u, (0 ≤ u ∧ u < N) → cmp N c u = p → ¬ 0 < dgs c u) (by
      rintro k ⟨z, i⟩ ⟨⟨h4, h5⟩, h6⟩
      dsimp only at h4 h5 h6
      by_cases hi : i < N
      · right
        have e1 := h3 i ⟨h5, hi⟩
        have e2 : wr (cmp N c i) = cmp N c i := by rw [← e1, wr_rd]
        rcases h6 with ⟨rfl, h6⟩ | ⟨rfl, h6⟩
        · refine ⟨k - 1, (1, i + 1), ?_, by omega, ⟨by dsimp only; omega, by dsimp only; omega⟩, Or.inl ⟨rfl, h6⟩⟩
          simp (disch := omega) only [bX10_partsWithEdges_20, hSM.1, wr_id, if_pos, if_neg, qLd_in, Option.bind_some]
        · by_cases c1 : cmp N c i = p
          · by_cases c2 : 0 < dgs c i
            · refine ⟨k - 1, (1, i + 1), ?_, by omega, ⟨by dsimp only; omega, by dsimp only; omega⟩, Or.inl ⟨rfl, i, ⟨h5, hi⟩, c1, c2⟩⟩
              simp (disch := omega) only [bX10_partsWithEdges_20, hSM.1, wr_id, if_pos, qLd_in, Option.bind_some, e1, c1, m_degreeOf hn hSM.2.2.1 (Or.inl rfl), hV.dw, ite_true]
            · refine ⟨k - 1, (0, i + 1), ?_, by omega, ⟨by dsimp only; omega, by dsimp only; omega⟩, Or.inr ⟨rfl, fun u hu q => ?_⟩⟩
              · simp (disch := omega) only [bX10_partsWithEdges_20, hSM.1, wr_id, if_pos, if_neg, qLd_in, Option.bind_some, e1, c1, m_degreeOf hn hSM.2.2.1 (Or.inl rfl), hV.dw, ite_true]
              · dsimp only at hu
                by_cases hui : u = i
                · rw [hui]; exact c2
                · exact h6 u (by omega) q
          · refine ⟨k - 1, (0, i + 1), ?_, by omega, ⟨by dsimp only; omega, by dsimp only; omega⟩, Or.inr ⟨rfl, fun u hu q => ?_⟩⟩
            · simp (disch := omega) only [bX10_partsWithEdges_20, hSM.1, wr_id, if_pos, if_neg, qLd_in, Option.bind_some, e1, e2, ite_true]
            · dsimp only at hu
              by_cases hui : u = i
              · rw [hui] at q; exact absurd q c1
              · exact h6 u (by omega) q
      · left
        have hiN : i = N := by omega
        subst hiN
        refine ⟨z, ?_, h6⟩
        simp (disch := omega) only [bX10_partsWithEdges_20, hSM.1, wr_id, if_neg, qLd_in, Option.bind_some]) n N.toNat (0, 0) ⟨⟨by dsimp only; omega, Int.le_refl _⟩, Or.inr ⟨rfl, fun u hu => by dsimp only at hu; omega⟩⟩ (by omega)
    exact ⟨b, r1, r2⟩
  refine ⟨μ', ?_, h2⟩
  -- the sum over the numbers is the sum over the smallest vertices
  obtain ⟨F, hF⟩ : ∃ F : Int → Int, ∀ p, 0 ≤ p → p < nco N c → lp (fun x : Int × Int => bX10_partsWithEdges_20 n (nco N c) 0 p x.1 x.2 μ') n (0, 0) = some (F p) ∧ (F p = 1 ∧ (∃ u, (0 ≤ u ∧ u < N) ∧ cmp N c u = p ∧ 0 < dgs c u) ∨ F p = 0 ∧ ∀ u, (0 ≤ u ∧ u < N) → cmp N c u = p → ¬ 0 < dgs c u) := by
    refine ⟨fun p => (lp (fun x : Int × Int => bX10_partsWithEdges_20 n (nco N c) 0 p x.1 x.2 μ') n (0, 0)).getD 0, fun p h0 h1 => ?_⟩
    obtain ⟨b, r1, r2⟩ := one p h0 h1
    dsimp only
    rw [r1]
    exact ⟨rfl, r2⟩
  have hb : ∀ z k, 0 ≤ k → k < nco N c → bX10_partsWithEdges_9 n (nco N c) z k μ' = some (.inl (z + F k, k + 1)) := by
    intro z k q1 q2
    have q3 := hF k q1 q2
    have q4 : nco N c ≤ 8 := by
      have : nco N c = idx (Lb N c) N := rfl
      omega
    have hw : lp (fun x : Int × Int => bX10_partsWithEdges_20 n (nco N c) z k x.1 x.2 μ') n (0, 0) = some (F k) := q3.1
    simp (disch := omega) only [bX10_partsWithEdges_9, wr_id, if_pos, hw, Option.bind_some]
    rcases q3.2 with ⟨a1, -⟩ | ⟨a1, -⟩ <;> rw [a1] <;> rfl
  have he' : ∀ z, bX10_partsWithEdges_9 n (nco N c) z (nco N c) μ' = some (.inr z) := by
    intro z
    have q4 : 0 ≤ nco N c ∧ nco N c ≤ 8 := by
      have : nco N c = idx (Lb N c) N := rfl
      omega
    simp (disch := omega) only [bX10_partsWithEdges_9, wr_id, if_neg]
  have q4 : 0 ≤ nco N c ∧ nco N c ≤ 8 := by
    have : nco N c = idx (Lb N c) N := rfl
    omega
  simp only [fX10_partsWithEdges, h1, Option.bind_some]
  rw [lp_rs2 0 hb he' (by omega) (by omega) (by omega), Int.zero_add]
  show some (rs F 0 (nco N c), μ') = _
  have e3 : rs F 0 (nco N c) = cwe N c := by
    have := idx_re (Lb N c) F N.toNat
    rw [show ((N.toNat : Nat) : Int) = N by omega] at this
    show rs F 0 (idx (Lb N c) N) = _
    rw [this]
    refine rs_congr (fun v v1 v2 => ?_)
    by_cases hr : Lb N c v = v
    · rw [if_pos hr]
      have hlt : idx (Lb N c) v < nco N c := idx_lt (Lb N c) v1 v2 hr
      have hvv : cmp N c v = idx (Lb N c) v := by unfold cmp; rw [hr]
      rcases (hF (idx (Lb N c) v) (idx_nn _ _) hlt).2 with ⟨a1, u, hu, a2, a3⟩ | ⟨a1, a2⟩
      · rw [a1]
        have hd := hL.dg hV hu a3
        have hroot := hL.1 u hu
        have : Lb N c u = v := by
          have h5 : idx (Lb N c) (Lb N c u) = idx (Lb N c) v := a2
          by_cases l1 : Lb N c u < v
          · have := idx_lt (Lb N c) hroot.1 l1 hroot.2.2
            omega
          · by_cases l2 : v < Lb N c u
            · have := idx_lt (Lb N c) v1 l2 hr
              omega
            · omega
        rw [this] at hd
        rw [if_pos ⟨hr, hd⟩]
      · rw [a1]
        have := a2 v ⟨v1, v2⟩ hvv
        rw [if_neg (fun q => this q.2)]
    · rw [if_neg hr, if_neg (fun q => hr q.1)]
  rw [e3]
end CNT
