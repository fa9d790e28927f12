/-! BRIDGES; components behind a switch -/
section BRI
variable {μ ν : qMu} {n : Nat} {N m p : Int} {c t : Int → Int → Int} {u v : Int}
theorem Vd.less (hV : Vd N c) (h : c u v ≠ 0) : Vd N (addc c u v (-1)) := by
  have hN := hV.N
  obtain ⟨hu, hv⟩ := hV.2.2.2.1 u v h
  have n1 := hV.2.1 u v
  refine ⟨hN, fun a b => ?_, fun a b => addc_sy hV.2.2.1 u v (-1) a b, fun a b hab => ?_, ?_⟩
  · rw [addc_pl]
    have n2 := hV.2.1 a b
    by_cases q : (a = u ∧ b = v) ∨ (a = v ∧ b = u)
    · rw [if_pos q]
      have e : c a b = c u v := by
        rcases q with ⟨rfl, rfl⟩ | ⟨rfl, rfl⟩
        · rfl
        · exact hV.2.2.1 _ _
      omega
    · rw [if_neg q]
      omega
  · rw [addc_pl] at hab
    by_cases q : (a = u ∧ b = v) ∨ (a = v ∧ b = u)
    · rcases q with ⟨rfl, rfl⟩ | ⟨rfl, rfl⟩
      · exact ⟨hu, hv⟩
      · exact ⟨hv, hu⟩
    · rw [if_neg q, Int.add_zero] at hab
      exact hV.2.2.2.1 a b hab
  · rw [Ed_addc (by omega) (by omega)]
    have := hV.2.2.2.2
    omega
theorem addc_bk (c : Int → Int → Int) (u v : Int) : addc (addc c u v (-1)) u v 1 = c := by
  funext a b
  rw [addc_p, addc_m]
  omega
noncomputable def sep (N : Int) (c : Int → Int → Int) (u v : Int) : Int := if Lb N (addc c u v (-1)) u = Lb N (addc c u v (-1)) v then 0 else 1
noncomputable def brg (N : Int) (c : Int → Int → Int) (u v : Int) : Int := if c u v = 1 then sep N c u v else 0
theorem sep_r (N : Int) (c : Int → Int → Int) (u v : Int) : sep N c u v = 0 ∨ sep N c u v = 1 := by
  unfold sep
  split <;> omega
theorem brg_r (N : Int) (c : Int → Int → Int) (u v : Int) : brg N c u v = 0 ∨ brg N c u v = 1 := by
  unfold brg
  split
  · exact sep_r N c u v
  · exact Or.inl rfl
theorem sep_self : sep N c u u = 0 := if_pos rfl
theorem sep_many (hV : Vd N c) (h : 2 ≤ c u v) : sep N c u v = 0 := by
  obtain ⟨hu, hv⟩ := hV.2.2.2.1 u v (by omega)
  have hL := Lb_ok (hV.less (u := u) (v := v) (by omega))
  refine if_pos (hL.2.1 u v hu hv ?_)
  rw [addc_m, dl_1 (Or.inl ⟨rfl, rfl⟩)]
  omega
theorem cmp_eq (hV : Vd N c) (hu : 0 ≤ u ∧ u < N) (hv : 0 ≤ v ∧ v < N) : cmp N c u = cmp N c v ↔ Lb N c u = Lb N c v := by
  have hL := Lb_ok hV
  have h1 := hL.1 u hu
  have h2 := hL.1 v hv
  constructor
  · intro h
    have h5 : idx (Lb N c) (Lb N c u) = idx (Lb N c) (Lb N c v) := h
    by_cases l1 : Lb N c u < Lb N c v
    · have := idx_lt (Lb N c) h1.1 l1 h1.2.2
      omega
    · by_cases l2 : Lb N c v < Lb N c u
      · have := idx_lt (Lb N c) h2.1 l2 h2.2.2
        omega
      · omega
  · intro h
    unfold cmp
    rw [h]
theorem cmp_r (hV : Vd N c) (hu : 0 ≤ u ∧ u < N) : 0 ≤ cmp N c u ∧ cmp N c u < nco N c := by
  have h1 := (Lb_ok hV).1 u hu
  exact ⟨idx_nn _ _, idx_lt (Lb N c) h1.1 (by omega) h1.2.2⟩
theorem nco_r (hV : Vd N c) : 0 ≤ nco N c ∧ nco N c ≤ 8 := by
  have hN := hV.N
  have h1 := idx_nn (Lb N c) N
  have h2 := idx_le (Lb N c) (by omega : 0 ≤ N)
  have h3 : nco N c = idx (Lb N c) N := rfl
  omega
theorem x_separates (hn : 5000 ≤ n) (h : GY μ 11 N c) (hV : Vd N c) (hc : c u v ≠ 0) : ∃ μ', fX9_separates n u v μ = some (sep N c u v, μ') ∧ Fr [15, 16, 19, 20] μ μ' := by
  have hN := hV.N
  obtain ⟨hu, hv⟩ := hV.2.2.2.1 u v hc
  have hE0 := hV.e0
  have hE1 := hV.2.2.2.2
  have hL := hV.less hc
  obtain ⟨μ1, a1, a2, a3⟩ := x_become (g := 15) (o := 11) hn h hV.bd (by decide) (by decide) (by decide) (by omega) (by omega)
  obtain ⟨μ2, b1, b2, b3⟩ := x_put a2 hV.bd (by omega) (u := u) (v := v) (k := -1) (by omega) (by omega) (by omega)
  obtain ⟨μ3, d1, d2, d3, -⟩ := x_parts hn b2.1 hL (g := 15) (by decide)
  refine ⟨μ3, ?_, ((a3.wk (by simp)).tr (b3.wk (by simp))).tr (d2.wk (by simp))⟩
  have e : fX4_areTogether u v μ3 = some (1 - sep N c u v) := by
    simp (disch := omega) only [fX4_areTogether, qLd_in, Option.bind_some, wr_rd]
    rw [d3 u hu, d3 v hv]
    unfold sep
    by_cases q : Lb N (addc c u v (-1)) u = Lb N (addc c u v (-1)) v
    · rw [if_pos q, if_pos q]
      rfl
    · rw [if_neg q, if_neg q]
      rfl
  simp only [fX9_separates, a1, b1, d1, e, Option.bind_some]
  rcases sep_r N c u v with e' | e' <;> rw [e'] <;> rfl
theorem m_isBridgeNow (hn : 5000 ≤ n) (h : SM μ N m c t) (hV : Vd N c) (hV' : Vd N t) (hu : 0 ≤ u ∧ u < N) (hv : 0 ≤ v ∧ v < N) : ∃ μ', fX10_isBridgeNow n u v μ = some (if u = v then 0 else brg N c u v, μ') ∧ SM μ' N m c t ∧ Fr [79, 84] μ μ' := by
  have hN := hV.N
  by_cases huv : u = v
  · refine ⟨μ, ?_, h, Fr.rf _ _⟩
    subst huv
    simp (disch := omega) only [fX10_isBridgeNow, ite_true]
  · have hw := hV.r u v
    by_cases hc : c u v = 1
    · have hL := hV.less (u := u) (v := v) (by omega)
      obtain ⟨μ1, a1, a2, a3⟩ := m_adds (T := 2) h (Or.inl rfl) hV.bd hV'.bd (u := u) (v := v) (k := -1) (by omega) (by omega) (by omega)
      rw [if_pos rfl, if_pos rfl] at a2
      obtain ⟨μ2, b1, b2, b3⟩ := m_parts hn a2 hL
      obtain ⟨μ3, d1, d2, d3⟩ := m_adds (T := 2) (a2.kp (b2 79 (by decide))) (Or.inl rfl) hL.bd hV'.bd (u := u) (v := v) (k := 1) (by omega) (by omega) (by omega)
      rw [if_pos rfl, if_pos rfl, addc_bk] at d2
      have hr := nco_r hL
      have hcu := cmp_r hL hu
      have hcv := cmp_r hL hv
      have e1 : rd μ3 84 u = cmp N (addc c u v (-1)) u := by
        rw [rd_cg (d3 84 (by decide))]
        exact b3 u hu
      have e2 : rd μ3 84 v = cmp N (addc c u v (-1)) v := by
        rw [rd_cg (d3 84 (by decide))]
        exact b3 v hv
      have e3 := cmp_eq hL hu hv
      refine ⟨μ3, ?_, d2, ((a3.wk (by simp)).tr (b2.wk (by simp))).tr (d3.wk (by simp))⟩
      rw [if_neg huv]
      unfold brg
      rw [if_pos hc]
      unfold sep
      by_cases q1 : 1 < nco N (addc c u v (-1))
      · by_cases q2 : Lb N (addc c u v (-1)) u = Lb N (addc c u v (-1)) v
        · have q3 := e3.mpr q2
          rw [if_pos q2]
          simp (disch := omega) only [fX10_isBridgeNow, wr_id, if_neg, m_many h.2.2.1 (Or.inl rfl), hc, Option.bind_some, ite_true, a1, b1, d1, if_pos, qLd_in, e1, e2, q3]
        · have q3 : ¬ cmp N (addc c u v (-1)) u = cmp N (addc c u v (-1)) v := fun q => q2 (e3.mp q)
          rw [if_neg q2]
          simp (disch := omega) only [fX10_isBridgeNow, wr_id, if_neg, m_many h.2.2.1 (Or.inl rfl), hc, Option.bind_some, ite_true, a1, b1, d1, if_pos, qLd_in, e1, e2]
      · have q3 : cmp N (addc c u v (-1)) u = cmp N (addc c u v (-1)) v := by omega
        rw [if_pos (e3.mp q3)]
        simp (disch := omega) only [fX10_isBridgeNow, wr_id, if_neg, m_many h.2.2.1 (Or.inl rfl), hc, Option.bind_some, ite_true, a1, b1, d1]
    · refine ⟨μ, ?_, h, Fr.rf _ _⟩
      rw [if_neg huv]
      unfold brg
      rw [if_neg hc]
      simp (disch := omega) only [fX10_isBridgeNow, wr_id, if_neg, m_many h.2.2.1 (Or.inl rfl), Option.bind_some]
noncomputable def brs (N : Int) (c : Int → Int → Int) : Int := rs (fun u => rs (fun v => brg N c u v) (u + 1) N) 0 N
theorem x_bridges (hn : 5000 ≤ n) (h : GY μ 11 N c) (hV : Vd N c) : ∃ μ', fX9_bridges n μ = some (brs N c, μ') ∧ Fr [15, 16, 19, 20] μ μ' := by
  have hN := hV.N
  have kpX : ∀ ν, Fr [15, 16, 19, 20] μ ν → GY ν 11 N c := fun ν hν => h.kp (hν 11 (by decide)) (hν 12 (by decide))
  have inner : ∀ u, (0 ≤ u ∧ u < N) → ∀ z ν, Fr [15, 16, 19, 20] μ ν → ∃ ν', lp (fun x : Int × Int × qMu => bX9_bridges_19 n u x.1 x.2.1 x.2.2) n (z, u + 1, ν) = some (z + rs (fun v => brg N c u v) (u + 1) N, ν') ∧ Fr [15, 16, 19, 20] μ ν' := by
    intro u hu z ν hν
    obtain ⟨b, r1, r2, r3⟩ := lp_inv (f := fun x : Int × Int × qMu => bX9_bridges_19 n u x.1 x.2.1 x.2.2) (fun k x => (x.2.1 = N - (k : Int) ∧ u + 1 ≤ x.2.1) ∧ Fr [15, 16, 19, 20] μ x.2.2 ∧ x.1 = z + rs (fun v => brg N c u v) (u + 1) x.2.1) (fun y => Fr [15, 16, 19, 20] μ y.2 ∧ y.1 = z + rs (fun v => brg N c u v) (u + 1) N) (by
      rintro k ⟨w, i, ξ⟩ ⟨⟨h4, h5⟩, h6, h7⟩
      dsimp only at h4 h5 h6 h7
      have hX := kpX ξ h6
      by_cases hi : i < N
      · right
        have hs := rs_last (f := fun v => brg N c u v) h5
        by_cases hc : c u i = 1
        · obtain ⟨ξ', s1, s2⟩ := x_separates hn hX hV (u := u) (v := i) (by omega)
          have e : brg N c u i = sep N c u i := if_pos hc
          refine ⟨k - 1, (w + brg N c u i, i + 1, ξ'), ?_, by omega, ⟨by dsimp only; omega, by dsimp only; omega⟩, h6.tr s2, ?_⟩
          · simp (disch := omega) only [bX9_bridges_19, fX1_vertexCount, hX.1.1, wr_id, if_pos, Option.bind_some, x_between hX.1, hc, ite_true, s1]
            rw [e]
            rcases sep_r N c u i with e' | e' <;> rw [e']
            · rw [Int.add_zero]
              rfl
            · rfl
          · dsimp only
            rw [hs, h7, Int.add_assoc]
        · have e : brg N c u i = 0 := if_neg hc
          have hw := hV.r u i
          refine ⟨k - 1, (w, i + 1, ξ), ?_, by omega, ⟨by dsimp only; omega, by dsimp only; omega⟩, h6, ?_⟩
          · simp (disch := omega) only [bX9_bridges_19, fX1_vertexCount, hX.1.1, wr_id, if_pos, if_neg, Option.bind_some, x_between hX.1]
          · dsimp only
            rw [hs, h7, e, Int.add_zero]
      · left
        have hiN : i = N := by omega
        subst hiN
        refine ⟨(w, ξ), ?_, h6, h7⟩
        simp (disch := omega) only [bX9_bridges_19, fX1_vertexCount, hX.1.1, wr_id, if_neg, Option.bind_some]) n (N - (u + 1)).toNat (z, u + 1, ν) ⟨⟨by dsimp only; omega, Int.le_refl _⟩, hν, by dsimp only; rw [rs_end (Int.le_refl _), Int.add_zero]⟩ (by omega)
    exact ⟨b.2, by rw [r1, ← r3], r2⟩
  obtain ⟨b, r1, r2, r3⟩ := lp_inv (f := fun x : Int × Int × qMu => bX9_bridges_4 n x.1 x.2.1 x.2.2) (fun k x => (x.2.1 = N - (k : Int) ∧ 0 ≤ x.2.1) ∧ Fr [15, 16, 19, 20] μ x.2.2 ∧ x.1 = rs (fun u => rs (fun v => brg N c u v) (u + 1) N) 0 x.2.1) (fun y => Fr [15, 16, 19, 20] μ y.2 ∧ y.1 = brs N c) (by
    rintro k ⟨w, i, ξ⟩ ⟨⟨h4, h5⟩, h6, h7⟩
    dsimp only at h4 h5 h6 h7
    have hX := kpX ξ h6
    by_cases hi : i < N
    · right
      have hs := rs_last (f := fun u => rs (fun v => brg N c u v) (u + 1) N) h5
      obtain ⟨ξ', s1, s2⟩ := inner i ⟨h5, hi⟩ w ξ h6
      refine ⟨k - 1, (w + rs (fun v => brg N c i v) (i + 1) N, i + 1, ξ'), ?_, by omega, ⟨by dsimp only; omega, by dsimp only; omega⟩, s2, ?_⟩
      · simp (disch := omega) only [bX9_bridges_4, fX1_vertexCount, hX.1.1, wr_id, if_pos, Option.bind_some, s1]
      · dsimp only
        rw [hs, h7]
    · left
      have hiN : i = N := by omega
      subst hiN
      refine ⟨(w, ξ), ?_, h6, h7⟩
      simp (disch := omega) only [bX9_bridges_4, fX1_vertexCount, hX.1.1, wr_id, if_neg, Option.bind_some]) n N.toNat (0, 0, μ) ⟨⟨by dsimp only; omega, Int.le_refl _⟩, Fr.rf _ _, by dsimp only; rw [rs_end (Int.le_refl _)]⟩ (by omega)
  refine ⟨b.2, ?_, r2⟩
  simp only [fX9_bridges, r1, Option.bind_some, r3]
theorem m_bridges (hn : 5000 ≤ n) (h : SM μ N m c t) (hV : Vd N c) (hV' : Vd N t) : ∃ μ', fX10_bridges n μ = some (brs N c, μ') ∧ SM μ' N m c t ∧ Fr [79, 84] (up μ 78 4 0) μ' := by
  have hN := hV.N
  have h0 : SM (up μ 78 4 0) N m c t := h.kp (up_ne (μ := μ) (a := 78) (b := 79) (i := 4) (v := 0) (by decide))
  have inner : ∀ u, (0 ≤ u ∧ u < N) → ∀ z ν, SM ν N m c t → ∃ ν', lp (fun x : Int × Int × qMu => bX10_bridges_23 n u x.1 x.2.1 x.2.2) n (z, u + 1, ν) = some (z + rs (fun v => brg N c u v) (u + 1) N, ν') ∧ SM ν' N m c t ∧ Fr [79, 84] ν ν' := by
    intro u hu z ν hν
    obtain ⟨b, r1, r2, r4, r3⟩ := lp_inv (f := fun x : Int × Int × qMu => bX10_bridges_23 n u x.1 x.2.1 x.2.2) (fun k x => (x.2.1 = N - (k : Int) ∧ u + 1 ≤ x.2.1) ∧ SM x.2.2 N m c t ∧ Fr [79, 84] ν x.2.2 ∧ x.1 = z + rs (fun v => brg N c u v) (u + 1) x.2.1) (fun y => SM y.2 N m c t ∧ Fr [79, 84] ν y.2 ∧ y.1 = z + rs (fun v => brg N c u v) (u + 1) N) (by
      rintro k ⟨w, i, ξ⟩ ⟨⟨h4, h5⟩, h6, h8, h7⟩
      dsimp only at h4 h5 h6 h7 h8
      by_cases hi : i < N
      · right
        have hs := rs_last (f := fun v => brg N c u v) h5
        obtain ⟨ξ', s1, s2, s3⟩ := m_isBridgeNow hn h6 hV hV' hu (v := i) (by omega)
        rw [if_neg (by omega)] at s1
        refine ⟨k - 1, (w + brg N c u i, i + 1, ξ'), ?_, by omega, ⟨by dsimp only; omega, by dsimp only; omega⟩, s2, h8.tr s3, ?_⟩
        · simp (disch := omega) only [bX10_bridges_23, h6.1, wr_id, if_pos, Option.bind_some, qLd_in, s1]
          rcases brg_r N c u i with e' | e' <;> rw [e']
          · rw [Int.add_zero]
            rfl
          · rfl
        · dsimp only
          rw [hs, h7, Int.add_assoc]
      · left
        have hiN : i = N := by omega
        subst hiN
        refine ⟨(w, ξ), ?_, h6, h8, h7⟩
        simp (disch := omega) only [bX10_bridges_23, h6.1, wr_id, if_neg, Option.bind_some, qLd_in]) n (N - (u + 1)).toNat (z, u + 1, ν) ⟨⟨by dsimp only; omega, Int.le_refl _⟩, hν, Fr.rf _ _, by dsimp only; rw [rs_end (Int.le_refl _), Int.add_zero]⟩ (by omega)
    exact ⟨b.2, by rw [r1, ← r3], r2, r4⟩
  obtain ⟨b, r1, r2, r4, r3⟩ := lp_inv (f := fun x : Int × Int × qMu => bX10_bridges_9 n x.1 x.2.1 x.2.2) (fun k x => (x.2.1 = N - (k : Int) ∧ 0 ≤ x.2.1) ∧ SM x.2.2 N m c t ∧ Fr [79, 84] (up μ 78 4 0) x.2.2 ∧ x.1 = rs (fun u => rs (fun v => brg N c u v) (u + 1) N) 0 x.2.1) (fun y => SM y.2 N m c t ∧ Fr [79, 84] (up μ 78 4 0) y.2 ∧ y.1 = brs N c) (by
    rintro k ⟨w, i, ξ⟩ ⟨⟨h4, h5⟩, h6, h8, h7⟩
    dsimp only at h4 h5 h6 h7 h8
    by_cases hi : i < N
    · right
      have hs := rs_last (f := fun u => rs (fun v => brg N c u v) (u + 1) N) h5
      obtain ⟨ξ', s1, s2, s3⟩ := inner i ⟨h5, hi⟩ w ξ h6
      refine ⟨k - 1, (w + rs (fun v => brg N c i v) (i + 1) N, i + 1, ξ'), ?_, by omega, ⟨by dsimp only; omega, by dsimp only; omega⟩, s2, h8.tr s3, ?_⟩
      · simp (disch := omega) only [bX10_bridges_9, h6.1, wr_id, if_pos, Option.bind_some, qLd_in, s1]
      · dsimp only
        rw [hs, h7]
    · left
      have hiN : i = N := by omega
      subst hiN
      refine ⟨(w, ξ), ?_, h6, h8, h7⟩
      simp (disch := omega) only [bX10_bridges_9, h6.1, wr_id, if_neg, Option.bind_some, qLd_in]) n N.toNat (0, 0, up μ 78 4 0) ⟨⟨by dsimp only; omega, Int.le_refl _⟩, h0, Fr.rf _ _, by dsimp only; rw [rs_end (Int.le_refl _)]⟩ (by omega)
  refine ⟨b.2, ?_, r2, r4⟩
  simp only [fX10_bridges, qPf_eq, r1, Option.bind_some, r3]
/-- the components when a switch is done -/
theorem x_behind {a b x y : Int} (hn : 5000 ≤ n) (h : GY μ 11 N c) (hV : Vd N c) (hr : rsn p c a b x y = 0) : ∃ μ1 μ2 μ', fX1_become n 15 11 μ = some μ1 ∧ (∀ ν, fX0_of a b x y ν = some (cd a b x y)) ∧ fX1_exchangeEdges 15 (cd a b x y) μ1 = some μ2 ∧ fX4_find n 15 μ2 = some μ' ∧ fX4_count n μ' = some (nco N (sw c a b x y)) ∧ Fr [15, 16, 19, 20] μ μ' := by
  have hN := hV.N
  obtain ⟨ha, hb, hx, hy, hV2, -⟩ := sw_ok hV hr
  have hE0 := hV.e0
  have hE1 := hV.2.2.2.2
  obtain ⟨μ1, a1, a2, a3⟩ := x_become (g := 15) (o := 11) hn h hV.bd (by decide) (by decide) (by decide) (by omega) (by omega)
  obtain ⟨μ2, b1, b2, b3⟩ := x_exch a2 hV hr
  obtain ⟨μ3, d1, d2, d3, d4, -⟩ := x_parts hn b2.1 hV2 (g := 15) (by decide)
  exact ⟨μ1, μ2, μ3, a1, fun ν => x_of (by omega) (by omega) (by omega) (by omega), b1, d1, d4, ((a3.wk (by simp)).tr (b3.wk (by simp))).tr (d2.wk (by simp))⟩
theorem m_behind {a b x y : Int} (hn : 5000 ≤ n) (h : SM μ N m c t) (hV : Vd N c) (hV' : Vd N t) (hr : rsn p c a b x y = 0) : ∃ μ1 μ2 μ', fX10_switches a b x y μ = some μ1 ∧ fX10_laysParts n μ1 = some (nco N (sw c a b x y), μ2) ∧ fX10_takesBack a b x y μ2 = some μ' ∧ SM μ' N m c t ∧ Fr [79, 84] μ μ' := by
  obtain ⟨ha, hb, hx, hy, hV2, -⟩ := sw_ok hV hr
  obtain ⟨μ1, a1, a2, a3⟩ := m_switches h hV hV' hr
  obtain ⟨μ2, b1, b2, b3⟩ := m_parts hn a2 hV2
  obtain ⟨μ3, d1, d2, d3⟩ := m_takesBack (a2.kp (b2 79 (by decide))) hV hV' hr
  exact ⟨μ1, μ2, μ3, a1, b1, d1, d2, ((a3.wk (by simp)).tr (b2.wk (by simp))).tr (d3.wk (by simp))⟩
end BRI
