/-! both sides lay the list -/
section FILL
variable {μ : qMu} {g n : Nat} {N m p : Int} {c t : Int → Int → Int}
theorem m_part {ν : qMu} {k : Int} (hk : 0 ≤ k ∧ k < 4096) : fX10_partOf k 0 ν = some (k / 512 % 8) ∧ fX10_partOf k 1 ν = some (k / 64 % 8) ∧ fX10_partOf k 2 ν = some (k / 8 % 8) ∧ fX10_partOf k 3 ν = some (k % 8) := by
  have h := m_partOf (μ := ν) (a := k / 512 % 8) (b := k / 64 % 8) (x := k / 8 % 8) (y := k % 8) (by omega) (by omega) (by omega) (by omega)
  rw [← cd_of hk] at h
  exact h
theorem x_part {ν : qMu} {k : Int} (hk : 0 ≤ k ∧ k < 4096) : fX0_vertexOf k 0 ν = some (k / 512 % 8) ∧ fX0_vertexOf k 1 ν = some (k / 64 % 8) ∧ fX0_vertexOf k 2 ν = some (k / 8 % 8) ∧ fX0_vertexOf k 3 ν = some (k % 8) := by
  have h := x_vertexOf (μ := ν) (a := k / 512 % 8) (b := k / 64 % 8) (x := k / 8 % 8) (y := k % 8) (by omega) (by omega) (by omega) (by omega)
  rw [← cd_of hk] at h
  exact h
theorem rsn_w (p : Int) (c : Int → Int → Int) (a b x y : Int) : wr (rsn p c a b x y) = rsn p c a b x y := by
  have := rsn_r p c a b x y
  exact wr_id (by omega) (by omega)
theorem lcn_le (hV : Vd N c) {k : Int} (hk : 0 ≤ k ∧ k ≤ 4096) : lcn p c k ≤ 1024 := by
  have h1 : lcn p c k ≤ lsz p c := by
    rw [lsz_e]
    exact lcn_mono hk.1 hk.2
  have h2 := lsz_le (p := p) hV
  omega
theorem m_laysList (hn : 5000 ≤ n) (h : SM μ N m c t) (hV : Vd N c) (hV' : Vd N t) (hp : 0 ≤ p ∧ p ≤ 2) : ∃ μ', fX10_laysList n p μ = some (lsz p c, μ') ∧ SM μ' N m c t ∧ Lst p c μ' 89 4096 ∧ Fr [79, 89] μ μ' := by
  obtain ⟨b, r1, r2, r3, r4, r5⟩ := lp_inv (f := fun x : Int × Int × qMu => bX10_laysList_4 n p x.1 x.2.1 x.2.2) (fun k x => (x.2.1 = 4096 - (k : Int) ∧ 0 ≤ x.2.1) ∧ x.1 = lcn p c x.2.1 ∧ SM x.2.2 N m c t ∧ Lst p c x.2.2 89 x.2.1 ∧ Fr [79, 89] μ x.2.2) (fun y => y.1 = lsz p c ∧ SM y.2 N m c t ∧ Lst p c y.2 89 4096 ∧ Fr [79, 89] μ y.2) (by
    rintro k ⟨z, i, ν⟩ ⟨⟨h4, h5⟩, h6, h7, h8, h9⟩
    dsimp only at h4 h5 h6 h7 h8 h9
    by_cases hi : i < 4096
    · right
      obtain ⟨p0, p1, p2, p3⟩ := m_part (ν := ν) ⟨h5, hi⟩
      obtain ⟨r, f1, f2⟩ := m_isFirst (μ := ν) (a := i / 512 % 8) (b := i / 64 % 8) (x := i / 8 % 8) (y := i % 8) (by omega) (by omega) (by omega) (by omega)
      rcases f2 with ⟨rfl, f2⟩ | ⟨rfl, f2⟩
      · obtain ⟨ν', s1, s2, s3⟩ := m_reasonBy h7 hV hV' hp (a := i / 512 % 8) (b := i / 64 % 8) (x := i / 8 % 8) (y := i % 8) (by omega) (by omega) (by omega) (by omega)
        by_cases hr : rsn p c (i / 512 % 8) (i / 64 % 8) (i / 8 % 8) (i % 8) = 0
        · have hok : okc p c i := ⟨f2, hr⟩
          have hz := lcn_nn p c i
          have hz2 := lcn_le (p := p) hV (k := i) (by omega)
          refine ⟨k - 1, (z + 1, i + 1, up ν' 89 z i), ?_, by omega, ⟨by dsimp only; omega, by dsimp only; omega⟩, ?_, s2.kp (up_ne (μ := ν') (a := 89) (b := 79) (i := z) (v := i) (by decide)), fun j j1 j2 hj => ?_, (h9.tr (s3.wk (by simp))).tr (Fr.up (by simp))⟩
          · simp (disch := omega) only [bX10_laysList_4, wr_id, if_pos, p0, p1, p2, p3, Option.bind_some, f1, if_neg, s1, hr, qSa_in, ite_true]
          · dsimp only
            rw [lcn_s h5, oki_1 hok, h6]
          · dsimp only at j2 ⊢
            by_cases hji : j = i
            · subst hji
              rw [h6, rd_at]
              exact wr_id (by omega) (by omega)
            · have := lcn_lt (p := p) (c := c) j1 (by omega : j < i) hj
              rw [rd_ni (by omega), rd_cg (s3 89 (by decide))]
              exact h8 j j1 (by omega) hj
        · have hok : ¬ okc p c i := fun q => hr q.2
          refine ⟨k - 1, (z, i + 1, ν'), ?_, by omega, ⟨by dsimp only; omega, by dsimp only; omega⟩, ?_, s2, fun j j1 j2 hj => ?_, h9.tr (s3.wk (by simp))⟩
          · simp (disch := omega) only [bX10_laysList_4, wr_id, if_pos, p0, p1, p2, p3, Option.bind_some, f1, if_neg, s1, rsn_w]
          · dsimp only
            rw [lcn_s h5, oki_0 hok, h6, Int.add_zero]
          · dsimp only at j2 ⊢
            by_cases hji : j = i
            · rw [hji] at hj
              exact absurd hj hok
            · rw [rd_cg (s3 89 (by decide))]
              exact h8 j j1 (by omega) hj
      · have hok : ¬ okc p c i := fun q => f2 q.1
        refine ⟨k - 1, (z, i + 1, ν), ?_, by omega, ⟨by dsimp only; omega, by dsimp only; omega⟩, ?_, h7, fun j j1 j2 hj => ?_, h9⟩
        · simp (disch := omega) only [bX10_laysList_4, wr_id, if_pos, p0, p1, p2, p3, Option.bind_some, f1, ite_true]
        · dsimp only
          rw [lcn_s h5, oki_0 hok, h6, Int.add_zero]
        · dsimp only at j2 ⊢
          by_cases hji : j = i
          · rw [hji] at hj
            exact absurd hj hok
          · exact h8 j j1 (by omega) hj
    · left
      have hi2 : i = 4096 := by omega
      subst hi2
      refine ⟨(z, ν), ?_, h6.trans (lsz_e p c).symm, h7, h8, h9⟩
      simp (disch := omega) only [bX10_laysList_4, wr_id, if_neg]) n 4096 (0, 0, μ) ⟨⟨rfl, Int.le_refl _⟩, rfl, h, fun k k1 k2 => by dsimp only at k2; omega, Fr.rf _ _⟩ (by omega)
  refine ⟨b.2, ?_, r3, r4, r5⟩
  simp only [fX10_laysList, r1, Option.bind_some, r2]
/-- the class's list when the codes below K have been looked at -/
def FI (μ : qMu) (p : Int) (c : Int → Int → Int) (K : Int) (ν : qMu) : Prop := rd ν 26 1 = lcn p c K ∧ Lst p c ν 27 K ∧ Fr [26, 27] μ ν
theorem FI.adv {ν : qMu} {K K' : Int} (h : FI μ p c K ν) (h0 : 0 ≤ K) (hK : K ≤ K') (hn : ∀ k, K ≤ k → k < K' → ¬ okc p c k) : FI μ p c K' ν := by
  refine ⟨?_, fun k k1 k2 hk => ?_, h.2.2⟩
  · rw [h.1]
    unfold lcn
    rw [rs_cut h0 hK, rs_zero (fun k k1 k2 => oki_0 (hn k k1 k2)), Int.add_zero]
  · by_cases hkK : k < K
    · exact h.2.1 k k1 hkK hk
    · exact absurd hk (hn k (by omega) k2)
theorem nok_e {k : Int} (h : c (k / 512 % 8) (k / 64 % 8) = 0) : ¬ okc p c k := fun q => (rsn_0 q.2).1 h
theorem nok_f (hV : Vd N c) {k : Int} (h : c (k / 8 % 8) (k % 8) = 0) : ¬ okc p c k := fun q => by
  have h1 := (rsn_0 q.2).2.1
  apply h1
  rw [h]
  split <;> omega
theorem nok_o {k : Int} (h : k / 8 % 8 < k / 512 % 8) : ¬ okc p c k := fun q => by
  have h1 := q.1.2.1
  unfold cd at h1
  omega
theorem x_fill (hn : 5000 ≤ n) (h : GX μ g N c) (hV : Vd N c) (hp : 0 ≤ p ∧ p ≤ 2) (hg : g ≠ 26 ∧ g ≠ 27 ∧ g + 1 ≠ 26 ∧ g + 1 ≠ 27) : ∃ μ', fX7_fill n g p μ = some μ' ∧ rd μ' 26 1 = lsz p c ∧ Lst p c μ' 27 4096 ∧ Fr [26, 27] μ μ' := by
  have hN := hV.N
  have kpX : ∀ ν, Fr [26, 27] μ ν → GX ν g N c := fun ν hν => h.kp (hν g (by simp; omega)) (hν (g + 1) (by simp; omega))
  -- the last place
  have l4 : ∀ a b x, (0 ≤ a ∧ a < N) → (0 ≤ b ∧ b < N) → (0 ≤ x ∧ x < N) → ∀ ν, FI μ p c (cd a b x 0) ν → ∃ ν', lp (fun w : Int × qMu => bX7_fillFrom_15 n g p a b x w.1 w.2) n (0, ν) = some ν' ∧ FI μ p c (cd a b (x + 1) 0) ν' := by
    intro a b x ha hb hx ν hν
    obtain ⟨r, r1, r2⟩ := lp_inv (f := fun w : Int × qMu => bX7_fillFrom_15 n g p a b x w.1 w.2) (fun k w => (w.1 = N - (k : Int) ∧ 0 ≤ w.1) ∧ FI μ p c (cd a b x w.1) w.2) (fun y => FI μ p c (cd a b (x + 1) 0) y) (by
      rintro k ⟨y, ξ⟩ ⟨⟨h4, h5⟩, h6⟩
      dsimp only at h4 h5 h6
      have hX := kpX ξ h6.2.2
      by_cases hi : y < N
      · right
        have hK := cd_r (a := a) (b := b) (x := x) (y := y) (by omega) (by omega) (by omega) (by omega)
        have e1 : cd a b x y / 512 % 8 = a ∧ cd a b x y / 64 % 8 = b ∧ cd a b x y / 8 % 8 = x ∧ cd a b x y % 8 = y := by
          unfold cd
          omega
        have eok : okc p c (cd a b x y) ↔ frs a b x y ∧ rsn p c a b x y = 0 := by
          unfold okc
          rw [e1.1, e1.2.1, e1.2.2.1, e1.2.2.2]
        have eK : cd a b x (y + 1) = cd a b x y + 1 := by
          unfold cd
          omega
        by_cases c1 : 0 < c x y
        · obtain ⟨r, f1, f2⟩ := x_isFirst (μ := ξ) (a := a) (b := b) (x := x) (y := y) (by omega) (by omega) (by omega) (by omega)
          rcases f2 with ⟨rfl, f2⟩ | ⟨rfl, f2⟩
          · by_cases c2 : rsn p c a b x y = 0
            · have hok := eok.mpr ⟨f2, c2⟩
              have hz := lcn_nn p c (cd a b x y)
              have hz1 : lcn p c (cd a b x y + 1) ≤ 1024 := lcn_le hV (by omega)
              have hz2 := lcn_lt (b := cd a b x y + 1) hK.1 (by omega) hok
              refine ⟨k - 1, (y + 1, up (up ξ 27 (lcn p c (cd a b x y)) (cd a b x y)) 26 1 (lcn p c (cd a b x y) + 1)), ?_, by omega, ⟨by dsimp only; omega, by dsimp only; omega⟩, ?_, fun j j1 j2 hj => ?_, (h6.2.2.tr (Fr.up (by simp))).tr (Fr.up (by simp))⟩
              · simp (disch := omega) only [bX7_fillFrom_15, fX1_vertexCount, hX.1, Option.bind_some, wr_id, if_pos, if_neg, x_between hX, hV.w, f1, x_reason hX hV, c2, x_of, fX7_append, h6.1, qSa_in, qPf_eq, rd_na, ite_true]
              · dsimp only
                rw [rd_at, eK, lcn_s hK.1, oki_1 hok]
                exact wr_id (by omega) (by omega)
              · dsimp only at j2 ⊢
                rw [rd_na (by decide)]
                by_cases hji : j = cd a b x y
                · subst hji
                  rw [rd_at]
                  exact wr_id (by omega) (by omega)
                · have := lcn_lt (p := p) (c := c) j1 (by omega : j < cd a b x y) hj
                  rw [rd_ni (by omega)]
                  exact h6.2.1 j j1 (by omega) hj
            · refine ⟨k - 1, (y + 1, ξ), ?_, by omega, ⟨by dsimp only; omega, by dsimp only; omega⟩, ?_⟩
              · simp (disch := omega) only [bX7_fillFrom_15, fX1_vertexCount, hX.1, Option.bind_some, wr_id, if_pos, if_neg, x_between hX, hV.w, f1, x_reason hX hV, rsn_w]
              · dsimp only
                rw [eK]
                refine h6.adv hK.1 (by omega) (fun j j1 j2 hj => ?_)
                have : j = cd a b x y := by omega
                rw [this] at hj
                exact c2 (eok.mp hj).2
          · refine ⟨k - 1, (y + 1, ξ), ?_, by omega, ⟨by dsimp only; omega, by dsimp only; omega⟩, ?_⟩
            · simp (disch := omega) only [bX7_fillFrom_15, fX1_vertexCount, hX.1, Option.bind_some, wr_id, if_pos, x_between hX, hV.w, f1, ite_true]
            · dsimp only
              rw [eK]
              refine h6.adv hK.1 (by omega) (fun j j1 j2 hj => ?_)
              have : j = cd a b x y := by omega
              rw [this] at hj
              exact f2 (eok.mp hj).1
        · refine ⟨k - 1, (y + 1, ξ), ?_, by omega, ⟨by dsimp only; omega, by dsimp only; omega⟩, ?_⟩
          · simp (disch := omega) only [bX7_fillFrom_15, fX1_vertexCount, hX.1, Option.bind_some, wr_id, if_pos, if_neg, x_between hX, hV.w]
          · dsimp only
            rw [eK]
            have hc0 : c x y = 0 := by have := hV.2.1 x y; omega
            refine h6.adv hK.1 (by omega) (fun j j1 j2 => nok_f hV ?_)
            have : j = cd a b x y := by omega
            rw [this, e1.2.2.1, e1.2.2.2]
            exact hc0
      · left
        have hy : y = N := by omega
        subst hy
        refine ⟨ξ, ?_, ?_⟩
        · simp (disch := omega) only [bX7_fillFrom_15, fX1_vertexCount, hX.1, Option.bind_some, wr_id, if_neg]
        · refine h6.adv (by unfold cd; omega) (by unfold cd; omega) (fun j j1 j2 => nok_f hV (hV.z2 (Or.inr ?_)))
          unfold cd at j1 j2
          omega) n N.toNat (0, ν) ⟨⟨by dsimp only; omega, Int.le_refl _⟩, hν⟩ (by omega)
    exact ⟨r, r1, r2⟩
  have l3 : ∀ a b, (0 ≤ a ∧ a < N) → (0 ≤ b ∧ b < N) → ∀ ν, FI μ p c (cd a b 0 0) ν → ∃ ν', fX7_fillFrom n g p a b ν = some ν' ∧ FI μ p c (cd a (b + 1) 0 0) ν' := by
    intro a b ha hb ν hν
    have h0 : FI μ p c (cd a b a 0) ν := hν.adv (by unfold cd; omega) (by unfold cd; omega) (fun j j1 j2 => nok_o (by
      unfold cd at j1 j2
      have e1 : j / 512 = a := by omega
      have e4 : j / 8 < 64 * a + 8 * b + a := by omega
      have e5 : j / 8 / 8 = 8 * a + b := by omega
      omega))
    obtain ⟨r, r1, r2⟩ := lp_inv (f := fun w : Int × qMu => bX7_fillFrom_3 n g p a b w.1 w.2) (fun k w => (w.1 = N - (k : Int) ∧ 0 ≤ w.1) ∧ FI μ p c (cd a b w.1 0) w.2) (fun y => FI μ p c (cd a (b + 1) 0 0) y) (by
      rintro k ⟨x, ξ⟩ ⟨⟨h4, h5⟩, h6⟩
      dsimp only at h4 h5 h6
      have hX := kpX ξ h6.2.2
      by_cases hi : x < N
      · right
        obtain ⟨ξ', s1, s2⟩ := l4 a b x ha hb ⟨h5, hi⟩ ξ h6
        refine ⟨k - 1, (x + 1, ξ'), ?_, by omega, ⟨by dsimp only; omega, by dsimp only; omega⟩, s2⟩
        simp (disch := omega) only [bX7_fillFrom_3, fX1_vertexCount, hX.1, Option.bind_some, wr_id, if_pos, s1]
      · left
        have hy : x = N := by omega
        subst hy
        refine ⟨ξ, ?_, ?_⟩
        · simp (disch := omega) only [bX7_fillFrom_3, fX1_vertexCount, hX.1, Option.bind_some, wr_id, if_neg]
        · refine h6.adv (by unfold cd; omega) (by unfold cd; omega) (fun j j1 j2 => nok_f hV (hV.z1 (Or.inr ?_)))
          unfold cd at j1 j2
          omega) n (N - a).toNat (a, ν) ⟨⟨by dsimp only; omega, ha.1⟩, h0⟩ (by omega)
    refine ⟨r, ?_, r2⟩
    simp only [fX7_fillFrom, r1, Option.bind_some]
  have l2 : ∀ a, (0 ≤ a ∧ a < N) → ∀ ν, FI μ p c (cd a 0 0 0) ν → ∃ ν', lp (fun w : Int × qMu => bX7_fill_18 n g p a w.1 w.2) n (0, ν) = some ν' ∧ FI μ p c (cd (a + 1) 0 0 0) ν' := by
    intro a ha ν hν
    obtain ⟨r, r1, r2⟩ := lp_inv (f := fun w : Int × qMu => bX7_fill_18 n g p a w.1 w.2) (fun k w => (w.1 = N - (k : Int) ∧ 0 ≤ w.1) ∧ FI μ p c (cd a w.1 0 0) w.2) (fun y => FI μ p c (cd (a + 1) 0 0 0) y) (by
      rintro k ⟨b, ξ⟩ ⟨⟨h4, h5⟩, h6⟩
      dsimp only at h4 h5 h6
      have hX := kpX ξ h6.2.2
      by_cases hi : b < N
      · right
        by_cases c1 : 0 < c a b
        · obtain ⟨ξ', s1, s2⟩ := l3 a b ha ⟨h5, hi⟩ ξ h6
          refine ⟨k - 1, (b + 1, ξ'), ?_, by omega, ⟨by dsimp only; omega, by dsimp only; omega⟩, s2⟩
          simp (disch := omega) only [bX7_fill_18, fX1_vertexCount, hX.1, Option.bind_some, wr_id, if_pos, x_between hX, hV.w, s1]
        · refine ⟨k - 1, (b + 1, ξ), ?_, by omega, ⟨by dsimp only; omega, by dsimp only; omega⟩, ?_⟩
          · simp (disch := omega) only [bX7_fill_18, fX1_vertexCount, hX.1, Option.bind_some, wr_id, if_pos, if_neg, x_between hX, hV.w]
          · have hc0 : c a b = 0 := by have := hV.2.1 a b; omega
            refine h6.adv (by unfold cd; omega) (by unfold cd; dsimp only; omega) (fun j j1 j2 => nok_e ?_)
            unfold cd at j1 j2
            dsimp only at j2
            rw [show j / 512 % 8 = a by omega, show j / 64 % 8 = b by omega]
            exact hc0
      · left
        have hy : b = N := by omega
        subst hy
        refine ⟨ξ, ?_, ?_⟩
        · simp (disch := omega) only [bX7_fill_18, fX1_vertexCount, hX.1, Option.bind_some, wr_id, if_neg]
        · refine h6.adv (by unfold cd; omega) (by unfold cd; omega) (fun j j1 j2 => nok_e (hV.z2 (Or.inr ?_)))
          unfold cd at j1 j2
          omega) n N.toNat (0, ν) ⟨⟨by dsimp only; omega, Int.le_refl _⟩, hν⟩ (by omega)
    exact ⟨r, r1, r2⟩
  obtain ⟨r, r1, r2⟩ := lp_inv (f := fun w : Int × qMu => bX7_fill_7 n g p w.1 w.2) (fun k w => (w.1 = N - (k : Int) ∧ 0 ≤ w.1) ∧ FI μ p c (cd w.1 0 0 0) w.2) (fun y => FI μ p c 4096 y) (by
    rintro k ⟨a, ξ⟩ ⟨⟨h4, h5⟩, h6⟩
    dsimp only at h4 h5 h6
    have hX := kpX ξ h6.2.2
    by_cases hi : a < N
    · right
      obtain ⟨ξ', s1, s2⟩ := l2 a ⟨h5, hi⟩ ξ h6
      refine ⟨k - 1, (a + 1, ξ'), ?_, by omega, ⟨by dsimp only; omega, by dsimp only; omega⟩, s2⟩
      simp (disch := omega) only [bX7_fill_7, fX1_vertexCount, hX.1, Option.bind_some, wr_id, if_pos, s1]
    · left
      have hy : a = N := by omega
      subst hy
      refine ⟨ξ, ?_, ?_⟩
      · simp (disch := omega) only [bX7_fill_7, fX1_vertexCount, hX.1, Option.bind_some, wr_id, if_neg]
      · refine h6.adv (by unfold cd; omega) (by unfold cd; omega) (fun j j1 j2 => nok_e (hV.z1 (Or.inr ?_)))
        unfold cd at j1 j2
        omega) n N.toNat (0, up μ 26 1 0) ⟨⟨by dsimp only; omega, Int.le_refl _⟩, by dsimp only; rw [rd_at]; rfl, fun j j1 j2 => by dsimp only at j2; unfold cd at j2; omega, Fr.up (by simp)⟩ (by omega)
  refine ⟨r, ?_, r2.1.trans (lsz_e p c).symm, r2.2.1, r2.2.2⟩
  simp only [fX7_fill, qPf_eq, Option.bind_some, r1]
end FILL
