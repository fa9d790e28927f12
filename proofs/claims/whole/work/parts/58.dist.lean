/-! DISTANCE -/
theorem dl_c (a b u v : Int) : dl a b u v = dl b a u v := by
  by_cases h : (u = a ∧ v = b) ∨ (u = b ∧ v = a)
  · rw [dl_1 h, dl_1 h.symm]
  · rw [dl_0 h, dl_0 (fun q => h q.symm)]
theorem sw_c1 (c : Int → Int → Int) (a b x y : Int) : sw c b a y x = sw c a b x y := by
  funext u v
  rw [sw_pl, sw_pl, dl_c b a, dl_c y x]
  omega
theorem sw_c2 (c : Int → Int → Int) (a b x y : Int) : sw c x y a b = sw c a b x y := by
  funext u v
  rw [sw_pl, sw_pl, dl_c x a, dl_c y b]
  omega
/-- every switch is among the first of four -/
theorem can {N : Int} {c : Int → Int → Int} {a b x y : Int} (hV : Vd N c) (h : rsn 0 c a b x y = 0) : ∃ k, (0 ≤ k ∧ k < 4096) ∧ okc 0 c k ∧ swk c k = sw c a b x y := by
  have hN := hV.N
  obtain ⟨ha, hb, hx, hy, -⟩ := sw_ok hV h
  have gen : ∀ a' b' x' y', (0 ≤ a' ∧ a' < 8) → (0 ≤ b' ∧ b' < 8) → (0 ≤ x' ∧ x' < 8) → (0 ≤ y' ∧ y' < 8) → rsn 0 c a' b' x' y' = 0 → frs a' b' x' y' → sw c a' b' x' y' = sw c a b x y → ∃ k, (0 ≤ k ∧ k < 4096) ∧ okc 0 c k ∧ swk c k = sw c a b x y := by
    intro a' b' x' y' h1 h2 h3 h4 h5 h6 h7
    have e : cd a' b' x' y' / 512 % 8 = a' ∧ cd a' b' x' y' / 64 % 8 = b' ∧ cd a' b' x' y' / 8 % 8 = x' ∧ cd a' b' x' y' % 8 = y' := by
      unfold cd
      omega
    refine ⟨cd a' b' x' y', cd_r h1 h2 h3 h4, ?_, (swk_cd h1 h2 h3 h4).1.trans h7⟩
    unfold okc
    rw [e.1, e.2.1, e.2.2.1, e.2.2.2]
    exact ⟨h6, h5⟩
  obtain ⟨q1, q2, q3, -⟩ := rsn_0 h
  have s1 := hV.2.2.1 a b
  have s2 := hV.2.2.1 x y
  have n1 := hV.2.1 a b
  have q2' : c x y ≠ 0 := by
    have : 0 ≤ (if (a = x ∧ b = y) ∨ (a = y ∧ b = x) then (1 : Int) else 0) := by split <;> omega
    omega
  have n2 := hV.2.1 x y
  have same : ((a = x ∧ b = y) ∨ (a = y ∧ b = x)) → 2 ≤ c a b := by
    intro q
    rw [if_pos q] at q2
    rcases q with ⟨rfl, rfl⟩ | ⟨rfl, rfl⟩
    · omega
    · omega
  have c0 : (cd a b x y ≤ cd b a y x ∧ cd a b x y ≤ cd x y a b ∧ cd a b x y ≤ cd y x b a) ∨ (cd b a y x ≤ cd a b x y ∧ cd b a y x ≤ cd x y a b ∧ cd b a y x ≤ cd y x b a) ∨ (cd x y a b ≤ cd a b x y ∧ cd x y a b ≤ cd b a y x ∧ cd x y a b ≤ cd y x b a) ∨ (cd y x b a ≤ cd a b x y ∧ cd y x b a ≤ cd b a y x ∧ cd y x b a ≤ cd x y a b) := by
    generalize cd a b x y = k1
    generalize cd b a y x = k2
    generalize cd x y a b = k3
    generalize cd y x b a = k4
    omega
  rcases c0 with f | f | f | f
  · exact gen a b x y (by omega) (by omega) (by omega) (by omega) h f rfl
  · refine gen b a y x (by omega) (by omega) (by omega) (by omega) (rsn_i (by omega) ?_ (by omega)) ⟨f.1, f.2.2, f.2.1⟩ (sw_c1 c a b x y)
    by_cases q : (b = y ∧ a = x) ∨ (b = x ∧ a = y)
    · rw [if_pos q]
      rw [if_pos (by omega)] at q2
      omega
    · rw [if_neg q]
      omega
  · refine gen x y a b (by omega) (by omega) (by omega) (by omega) (rsn_i (by omega) ?_ (by omega)) ⟨f.2.2, f.1, f.2.1⟩ (sw_c2 c a b x y)
    by_cases q : (x = a ∧ y = b) ∨ (x = b ∧ y = a)
    · have := same (by omega)
      rw [if_pos q]
      omega
    · rw [if_neg q]
      omega
  · refine gen y x b a (by omega) (by omega) (by omega) (by omega) (rsn_i (by omega) ?_ (by omega)) ⟨f.2.2, f.2.1, f.1⟩ ((sw_c1 c x y a b).trans (sw_c2 c a b x y))
    by_cases q : (y = b ∧ x = a) ∨ (y = a ∧ x = b)
    · have := same (by omega)
      rw [if_pos q]
      omega
    · rw [if_neg q]
      omega
section DIS
variable {μ ν : qMu} {n : Nat} {N m p : Int} {c t : Int → Int → Int}
def two (c t : Int → Int → Int) : Prop := ∃ i, (0 ≤ i ∧ i < lsz 0 c) ∧ sps (swk c (lkc 0 c i)) t = 2
theorem x_beside (hn : 5000 ≤ n) (h : GY μ 11 N c) (hV : Vd N c) (h' : GX μ 13 N t) (hV' : Vd N t) : ∃ b μ', fX9_oneSwitchLeadsBeside n μ = some (b, μ') ∧ Fr [15, 16, 26, 27] μ μ' ∧ (b = 1 ∧ two c t ∨ b = 0 ∧ ¬ two c t) := by
  have hN := hV.N
  have hS := lsz_le (p := 0) hV
  have hS0 := lsz_nn 0 c
  have hE0 := hV.e0
  have hE1 := hV.2.2.2.2
  obtain ⟨μ1, a1, a2, a3, a4⟩ := x_fill (p := 0) hn h.1 hV (by omega) (by decide)
  obtain ⟨μ2, b1, b2, b3⟩ := x_become (g := 15) (o := 11) hn (h.kp (a4 11 (by decide)) (a4 12 (by decide))) hV.bd (by decide) (by decide) (by decide) (by omega) (by omega)
  have f2 : Fr [15, 16, 26, 27] μ μ2 := (a4.wk (by simp)).tr (b3.wk (by simp))
  obtain ⟨y, r1, ν, r2, r3⟩ := lp_inv (f := fun x : Int × qMu => bX9_oneSwitchLeadsBeside_25 n x.1 x.2) (fun k x => (x.1 = lsz 0 c - (k : Int) ∧ 0 ≤ x.1) ∧ (GY x.2 15 N c ∧ rd x.2 26 1 = lsz 0 c ∧ Lst 0 c x.2 27 4096 ∧ Fr [15, 16, 26, 27] μ x.2) ∧ ∀ j, 0 ≤ j → j < x.1 → ¬ sps (swk c (lkc 0 c j)) t = 2) (fun y => ∃ ν, Fr [15, 16, 26, 27] μ ν ∧ (y = .inl ν ∧ ¬ two c t ∨ y = .inr (1, ν) ∧ two c t)) (by
    rintro k ⟨i, ξ⟩ ⟨⟨h4, h5⟩, ⟨h6, h7, h8, h9⟩, h10⟩
    dsimp only at h4 h5 h6 h7 h8 h9 h10
    have e0 : fX7_length ξ = some (lsz 0 c) := by
      rw [← h7]
      rfl
    by_cases hi : i < lsz 0 c
    · obtain ⟨q1, ξ1, q2, q3, q4, kb, q5, q6⟩ := x_probe h6 h8 hV ⟨h5, hi⟩
      obtain ⟨k1, k2, k3⟩ := lkc_ok h5 hi
      have hV2 := (swk_ok hV k2).1
      have hX' : GX ξ1 13 N t := h'.kp ((q4 13 (by decide)).trans (h9 13 (by decide))) ((q4 14 (by decide)).trans (h9 14 (by decide)))
      have es : fX1_surplusOver n 15 13 ξ1 = some (sps (swk c (lkc 0 c i)) t) := x_surplusOver hn q3.1 hV2 hX' hV'
      have hr := sps_r hV2 hV'
      obtain ⟨t1, ξ3, t2, t3, t4, t5⟩ := q6 ξ1 rfl rfl rfl
      have fr : Fr [15, 16] ξ ξ3 := q4.tr t4
      have fr9 : Fr [15, 16, 26, 27] μ ξ3 := h9.tr (fr.wk (by simp))
      by_cases hc : sps (swk c (lkc 0 c i)) t = 2
      · left
        refine ⟨.inr (1, ξ3), ?_, ξ3, fr9, Or.inr ⟨rfl, i, ⟨h5, hi⟩, hc⟩⟩
        show bX9_oneSwitchLeadsBeside_25 n i ξ = _
        unfold bX9_oneSwitchLeadsBeside_25
        rw [e0, obs, wr_id (by omega) (by omega), wr_id (by omega) (by omega), if_pos hi, q1, obs, q2, obs, es, obs, t1, obs, q5, obs, t2, obs, wr_id (by omega) (by omega), if_pos hc]
      · right
        refine ⟨k - 1, (i + 1, ξ3), ?_, by omega, ⟨by dsimp only; omega, by dsimp only; omega⟩, ⟨t3, ?_, ?_, fr9⟩, fun j j1 j2 => ?_⟩
        · show bX9_oneSwitchLeadsBeside_25 n i ξ = _
          unfold bX9_oneSwitchLeadsBeside_25
          rw [e0, obs, wr_id (by omega) (by omega), wr_id (by omega) (by omega), if_pos hi, q1, obs, q2, obs, es, obs, t1, obs, q5, obs, t2, obs, wr_id (by omega) (by omega), if_neg hc]
        · dsimp only
          rw [rd_cg (fr 26 (by decide))]
          exact h7
        · intro j j1 j2 hj
          dsimp only
          rw [rd_cg (fr 27 (by decide))]
          exact h8 j j1 j2 hj
        · dsimp only at j2
          by_cases e : j = i
          · rw [e]
            exact hc
          · exact h10 j j1 (by omega)
    · left
      refine ⟨.inl ξ, ?_, ξ, h9, Or.inl ⟨rfl, ?_⟩⟩
      · show bX9_oneSwitchLeadsBeside_25 n i ξ = _
        unfold bX9_oneSwitchLeadsBeside_25
        rw [e0, obs, wr_id (by omega) (by omega), wr_id (by omega) (by omega), if_neg hi]
      · rintro ⟨j, j1, j2⟩
        exact h10 j j1.1 (by omega) j2) n (lsz 0 c).toNat (0, μ2) ⟨⟨by dsimp only; omega, Int.le_refl _⟩, ⟨b2, by dsimp only; rw [rd_cg (b3 26 (by decide))]; exact a2, fun j j1 j2 hj => by dsimp only; rw [rd_cg (b3 27 (by decide))]; exact a3 j j1 j2 hj, f2⟩, fun j j1 j2 => by dsimp only at j2; omega⟩ (by omega)
  rcases r3 with ⟨rfl, e⟩ | ⟨rfl, e⟩
  · refine ⟨0, ν, ?_, r2, Or.inr ⟨rfl, e⟩⟩
    simp only [fX9_oneSwitchLeadsBeside, a1, b1, Option.bind_some, r1, Sum.elim_inl]
  · refine ⟨1, ν, ?_, r2, Or.inl ⟨rfl, e⟩⟩
    simp only [fX9_oneSwitchLeadsBeside, a1, b1, Option.bind_some, r1, Sum.elim_inr]
theorem alk_swk {k : Int} (hV : Vd N c) (ha : alk c t) (hk : okc p c k) : alk (swk c k) t := fun u u1 u2 => ((swk_ok hV hk).2.2 u).trans (ha u u1 u2)
theorem sps_2 (hV : Vd N c) (hV' : Vd N t) (ha : alk c t) : sps c t = 0 ∨ 2 ≤ sps c t := by
  rcases nx_ok hV hV' ha with ⟨-, -, q⟩ | ⟨-, -, -, -, -, -, -, q⟩
  · exact Or.inl q
  · exact Or.inr q
/-- beside: a switch of the list goes there -/
theorem one_ex (hV : Vd N c) (hV' : Vd N t) (ha : alk c t) (h : sps c t = 2) : ∃ k, (0 ≤ k ∧ k < 4096) ∧ okc 0 c k ∧ sps (swk c k) t = 0 := by
  rcases nx_ok hV hV' ha with ⟨-, -, q⟩ | ⟨q1, hA, hB, q2, q3, q4, q5, q6⟩
  · omega
  · obtain ⟨k, k1, k2, k3⟩ := can hV q3
    refine ⟨k, k1, k2, ?_⟩
    have e1 := (swk_cd (c := c) (a := lkF t c / 8) (b := nxA t c) (x := lkF t c % 8) (y := nxB t c) (by omega) hA (by omega) hB).1
    rw [q2, e1, ← k3] at q5
    rcases sps_2 (swk_ok hV k2).1 hV' (alk_swk hV ha k2) with q | q
    · exact q
    · omega
theorem m_isOneAway (hn : 5000 ≤ n) (h : SM μ N m c t) (hV : Vd N c) (hV' : Vd N t) (ha : alk c t) (h0 : 0 < sps c t) : ∃ b μ', fX10_isOneAway n μ = some (b, μ') ∧ SM μ' N m c t ∧ Fr [79] μ μ' ∧ (b = 1 ∧ sps c t = 2 ∨ b = 0 ∧ sps c t ≠ 2) := by
  have hd := m_differenceNow hn h.2.2.1 hV h.2.2.2 hV'
  have hr := sps_r hV hV'
  have h2 := sps_2 hV hV' ha
  by_cases hc : 2 < sps c t
  · refine ⟨0, μ, ?_, h, Fr.rf _ _, Or.inr ⟨rfl, by omega⟩⟩
    simp (disch := omega) only [fX10_isOneAway, hd, Option.bind_some, wr_id, if_pos]
  · have e2 : sps c t = 2 := by omega
    obtain ⟨y, r1, ν, r2, r3, r4⟩ := lp_inv (f := fun x : Int × qMu => bX10_isOneAway_12 n x.1 x.2) (fun k x => (x.1 = 4096 - (k : Int) ∧ 0 ≤ x.1) ∧ SM x.2 N m c t ∧ Fr [79] μ x.2 ∧ ∀ j, 0 ≤ j → j < x.1 → okc 0 c j → ¬ sps (swk c j) t = 0) (fun y => ∃ ν, y = .inr (1, ν) ∧ SM ν N m c t ∧ Fr [79] μ ν) (by
      rintro k ⟨i, ξ⟩ ⟨⟨h4, h5⟩, h6, h7, h8⟩
      dsimp only at h4 h5 h6 h7 h8
      by_cases hi : i < 4096
      · obtain ⟨p0, p1, p2, p3⟩ := m_part (ν := ξ) ⟨h5, hi⟩
        obtain ⟨r, f1, f2⟩ := m_isFirst (μ := ξ) (a := i / 512 % 8) (b := i / 64 % 8) (x := i / 8 % 8) (y := i % 8) (by omega) (by omega) (by omega) (by omega)
        rcases f2 with ⟨rfl, f2⟩ | ⟨rfl, f2⟩
        · obtain ⟨ξ1, s1, s2, s3⟩ := m_reasonBy h6 hV hV' (p := 0) (by omega) (a := i / 512 % 8) (b := i / 64 % 8) (x := i / 8 % 8) (y := i % 8) (by omega) (by omega) (by omega) (by omega)
          have hw := rsn_w 0 c (i / 512 % 8) (i / 64 % 8) (i / 8 % 8) (i % 8)
          by_cases hq : rsn 0 c (i / 512 % 8) (i / 64 % 8) (i / 8 % 8) (i % 8) = 0
          · obtain ⟨ξ2, u1, u2, u3⟩ := m_switches s2 hV hV' hq
            have hok : okc 0 c i := ⟨f2, hq⟩
            have hV2 : Vd N (sw c (i / 512 % 8) (i / 64 % 8) (i / 8 % 8) (i % 8)) := (swk_ok hV hok).1
            have hd2 : fX10_differenceNow n ξ2 = some (sps (swk c i) t) := m_differenceNow hn u2.2.2.1 hV2 u2.2.2.2 hV'
            have hr2 : 0 ≤ sps (swk c i) t ∧ sps (swk c i) t ≤ 16 := sps_r hV2 hV'
            obtain ⟨ξ3, w1, w2, w3⟩ := m_takesBack u2 hV hV' hq
            have fr : Fr [79] μ ξ3 := ((h7.tr s3).tr u3).tr w3
            by_cases hz : sps (swk c i) t = 0
            · left
              refine ⟨.inr (1, ξ3), ?_, ξ3, rfl, w2, fr⟩
              simp (disch := omega) only [bX10_isOneAway_12, wr_id, if_pos, if_neg, p0, p1, p2, p3, f1, s1, hq, u1, hd2, w1, hz, Option.bind_some, ite_true]
            · right
              refine ⟨k - 1, (i + 1, ξ3), ?_, by omega, ⟨by dsimp only; omega, by dsimp only; omega⟩, w2, fr, fun j j1 j2 hj => ?_⟩
              · simp (disch := omega) only [bX10_isOneAway_12, wr_id, if_pos, if_neg, p0, p1, p2, p3, f1, s1, hq, u1, hd2, w1, Option.bind_some, ite_true]
              · dsimp only at j2
                by_cases e : j = i
                · rw [e]
                  exact hz
                · exact h8 j j1 (by omega) hj
          · right
            refine ⟨k - 1, (i + 1, ξ1), ?_, by omega, ⟨by dsimp only; omega, by dsimp only; omega⟩, s2, h7.tr s3, fun j j1 j2 hj => ?_⟩
            · simp (disch := omega) only [bX10_isOneAway_12, wr_id, if_pos, if_neg, p0, p1, p2, p3, f1, s1, hw, Option.bind_some, ite_true]
            · dsimp only at j2
              by_cases e : j = i
              · rw [e] at hj
                exact absurd hj.2 hq
              · exact h8 j j1 (by omega) hj
        · right
          refine ⟨k - 1, (i + 1, ξ), ?_, by omega, ⟨by dsimp only; omega, by dsimp only; omega⟩, h6, h7, fun j j1 j2 hj => ?_⟩
          · simp (disch := omega) only [bX10_isOneAway_12, wr_id, if_pos, p0, p1, p2, p3, f1, Option.bind_some, ite_true]
          · dsimp only at j2
            by_cases e : j = i
            · rw [e] at hj
              exact absurd hj.1 f2
            · exact h8 j j1 (by omega) hj
      · exfalso
        obtain ⟨k', k1, k2, k3⟩ := one_ex hV hV' ha e2
        exact h8 k' k1.1 (by omega) k2 k3) n 4096 (0, μ) ⟨⟨rfl, Int.le_refl _⟩, h, Fr.rf _ _, fun j j1 j2 => by dsimp only at j2; omega⟩ (by omega)
    refine ⟨1, ν, ?_, r3, r4, Or.inl ⟨rfl, e2⟩⟩
    subst r2
    simp (disch := omega) only [fX10_isOneAway, hd, Option.bind_some, wr_id, if_neg, r1, Sum.elim_inr]
theorem m_isTwoAway (hn : 5000 ≤ n) (h : SM μ N m c t) (hV : Vd N c) (hV' : Vd N t) (ha : alk c t) (h0 : 2 < sps c t) : ∃ b μ', fX10_isTwoAway n μ = some (b, μ') ∧ SM μ' N m c t ∧ Fr [79, 89] μ μ' ∧ (b = 1 ∧ sps c t ≤ 4 ∧ two c t ∨ b = 0 ∧ ¬ (sps c t ≤ 4 ∧ two c t)) := by
  have hN := hV.N
  have hd := m_differenceNow hn h.2.2.1 hV h.2.2.2 hV'
  have hr := sps_r hV hV'
  have hS := lsz_le (p := 0) hV
  have hS0 := lsz_nn 0 c
  by_cases hc : 4 < sps c t
  · refine ⟨0, μ, ?_, h, Fr.rf _ _, Or.inr ⟨rfl, fun q => by omega⟩⟩
    have e : bX10_isTwoAway_22 n 0 0 0 μ = some (.inr (0, μ)) := by
      simp (disch := omega) only [bX10_isTwoAway_22, wr_id, if_neg]
    have e2 : lp (fun x : Int × Int × qMu => bX10_isTwoAway_22 n 0 x.1 x.2.1 x.2.2) n (0, 0, μ) = some (0, μ) := lp_seq (f := fun x : Int × Int × qMu => bX10_isTwoAway_22 n 0 x.1 x.2.1 x.2.2) (fun _ => (0, 0, μ)) 0 (fun j hj => absurd hj (Nat.not_lt_zero j)) e n (by omega)
    simp (disch := omega) only [fX10_isTwoAway, hd, Option.bind_some, wr_id, if_pos, e2]
    rfl
  · obtain ⟨μ1, a1, a2, a3, a4⟩ := m_laysList (p := 0) hn h hV hV' (by omega)
    obtain ⟨y, r1, r2, r3, r4⟩ := lp_inv (f := fun x : Int × Int × qMu => bX10_isTwoAway_22 n (lsz 0 c) x.1 x.2.1 x.2.2) (fun k x => (x.2.1 = lsz 0 c - (k : Int) ∧ 0 ≤ x.2.1) ∧ (SM x.2.2 N m c t ∧ Lst 0 c x.2.2 89 4096 ∧ Fr [79, 89] μ x.2.2) ∧ (x.1 = 1 ∧ two c t ∨ x.1 = 0 ∧ ∀ j, 0 ≤ j → j < x.2.1 → ¬ sps (swk c (lkc 0 c j)) t = 2)) (fun y => SM y.2 N m c t ∧ Fr [79, 89] μ y.2 ∧ (y.1 = 1 ∧ two c t ∨ y.1 = 0 ∧ ¬ two c t)) (by
      rintro k ⟨z, i, ξ⟩ ⟨⟨h4, h5⟩, ⟨h6, h8, h9⟩, h10⟩
      dsimp only at h4 h5 h6 h8 h9 h10
      by_cases hi : i < lsz 0 c
      · rcases h10 with ⟨rfl, h10⟩ | ⟨rfl, h10⟩
        · left
          refine ⟨(1, ξ), ?_, h6, h9, Or.inl ⟨rfl, h10⟩⟩
          simp (disch := omega) only [bX10_isTwoAway_22, wr_id, if_pos, if_neg]
        · right
          obtain ⟨q1, ξ1, q2, q3, q4, q6⟩ := m_probe h6 h8 hV hV' ⟨h5, hi⟩
          obtain ⟨k1, k2, k3⟩ := lkc_ok h5 hi
          have hV2 := (swk_ok hV k2).1
          have hbig : sps c t ≤ sps (swk c (lkc 0 c i)) t + 2 := sps_sw (by omega) (by omega) (by omega) (by omega)
          obtain ⟨b, ξ2, s1, s2, s3, s4⟩ := m_isOneAway hn q3 hV2 hV' (alk_swk hV ha k2) (by omega)
          obtain ⟨t1, ξ3, t2, t3, t4, t5⟩ := q6 ξ2 s2 (s3 89 (by decide))
          have fr : Fr [79] ξ ξ3 := (q4.tr s3).tr t4
          refine ⟨k - 1, (b, i + 1, ξ3), ?_, by omega, ⟨by dsimp only; omega, by dsimp only; omega⟩, ⟨t3, ?_, h9.tr (fr.wk (by simp))⟩, ?_⟩
          · simp (disch := omega) only [bX10_isTwoAway_22, wr_id, if_pos, q1, q2, s1, t1, t2, Option.bind_some, ite_true]
          · intro j j1 j2 hj
            dsimp only
            rw [rd_cg (fr 89 (by decide))]
            exact h8 j j1 j2 hj
          · dsimp only
            rcases s4 with ⟨rfl, s4⟩ | ⟨rfl, s4⟩
            · exact Or.inl ⟨rfl, i, ⟨h5, hi⟩, s4⟩
            · refine Or.inr ⟨rfl, fun j j1 j2 => ?_⟩
              by_cases e : j = i
              · rw [e]
                exact s4
              · exact h10 j j1 (by omega)
      · left
        refine ⟨(z, ξ), ?_, h6, h9, ?_⟩
        · simp (disch := omega) only [bX10_isTwoAway_22, wr_id, if_neg]
        · dsimp only
          rcases h10 with ⟨rfl, h10⟩ | ⟨rfl, h10⟩
          · exact Or.inl ⟨rfl, h10⟩
          · refine Or.inr ⟨rfl, ?_⟩
            rintro ⟨j, j1, j2⟩
            exact h10 j j1.1 (by omega) j2) n (lsz 0 c).toNat (0, 0, μ1) ⟨⟨by dsimp only; omega, Int.le_refl _⟩, ⟨a2, a3, a4⟩, Or.inr ⟨rfl, fun j j1 j2 => by dsimp only at j2; omega⟩⟩ (by omega)
    obtain ⟨b, ν⟩ := y
    dsimp only at r2 r3 r4
    have hb : qbl b = some b := by
      rcases r4 with ⟨rfl, -⟩ | ⟨rfl, -⟩ <;> rfl
    refine ⟨b, ν, ?_, r2, r3, ?_⟩
    · simp (disch := omega) only [fX10_isTwoAway, hd, Option.bind_some, wr_id, if_neg, a1, r1, hb]
    · rcases r4 with ⟨r4, r5⟩ | ⟨r4, r5⟩
      · exact Or.inl ⟨r4, by omega, r5⟩
      · exact Or.inr ⟨r4, fun q => r5 q.2⟩
noncomputable def dst (c t : Int → Int → Int) : Int := if sps c t = 0 then 0 else if sps c t = 2 then 1 else @ite _ (sps c t ≤ 4 ∧ two c t) (Classical.propDecidable _) 2 3
theorem x_checkAlike (hn : 5000 ≤ n) (h : GX μ 11 N c) (hV : Vd N c) (h' : GX μ 13 N t) (hV' : Vd N t) : (alk c t ∧ fX9_checkAlike n μ = some (.inl 0)) ∨ (¬ alk c t ∧ fX9_checkAlike n μ = some (.inr 3)) := by
  obtain ⟨b, h1, h2⟩ := x_hasDegreesOf hn h hV h' hV'
  rcases h2 with ⟨rfl, h2⟩ | ⟨rfl, h2⟩
  · left
    refine ⟨h2, ?_⟩
    simp (disch := omega) only [fX9_checkAlike, h1, Option.bind_some, wr_id, if_neg]
  · right
    refine ⟨h2, ?_⟩
    simp (disch := omega) only [fX9_checkAlike, h1, Option.bind_some, wr_id, if_pos, ite_true]
theorem x_distance (hn : 5000 ≤ n) (h : GY μ 11 N c) (hV : Vd N c) (h' : GX μ 13 N t) (hV' : Vd N t) (ha : alk c t) : ∃ μ', fX9_distance n μ = some (.inl (dst c t), μ') ∧ Fr [15, 16, 26, 27] μ μ' := by
  have hd := x_surplusOver hn h.1 hV h' hV'
  have hr := sps_r hV hV'
  have h2 := sps_2 hV hV' ha
  have hA : fX9_checkAlike n μ = some (.inl 0) := by
    rcases x_checkAlike hn h.1 hV h' hV' with ⟨-, q⟩ | ⟨q, -⟩
    · exact q
    · exact absurd ha q
  by_cases c0 : sps c t = 0
  · refine ⟨μ, ?_, Fr.rf _ _⟩
    unfold dst
    rw [if_pos c0]
    simp (disch := omega) only [fX9_distance, hA, Option.bind_some, Sum.elim_inl, hd, wr_id, if_pos]
  · by_cases c2 : sps c t = 2
    · refine ⟨μ, ?_, Fr.rf _ _⟩
      unfold dst
      rw [if_neg c0, if_pos c2]
      simp (disch := omega) only [fX9_distance, hA, Option.bind_some, Sum.elim_inl, hd, wr_id, if_pos, if_neg]
    · by_cases c4 : 4 < sps c t
      · refine ⟨μ, ?_, Fr.rf _ _⟩
        unfold dst
        rw [if_neg c0, if_neg c2, if_neg (by omega)]
        simp (disch := omega) only [fX9_distance, hA, Option.bind_some, Sum.elim_inl, hd, wr_id, if_pos, if_neg]
      · obtain ⟨b, μ', s1, s2, s3⟩ := x_beside hn h hV h' hV'
        refine ⟨μ', ?_, s2⟩
        unfold dst
        rw [if_neg c0, if_neg c2]
        rcases s3 with ⟨rfl, s3⟩ | ⟨rfl, s3⟩
        · rw [if_pos ⟨by omega, s3⟩]
          simp (disch := omega) only [fX9_distance, hA, Option.bind_some, Sum.elim_inl, hd, wr_id, if_neg, s1]
        · rw [if_neg (fun q => s3 q.2)]
          simp (disch := omega) only [fX9_distance, hA, Option.bind_some, Sum.elim_inl, hd, wr_id, if_neg, s1, ite_true]
/-- the reference, behind its check -/
theorem m_distance (hn : 5000 ≤ n) (h : SM μ N m c t) (hV : Vd N c) (hV' : Vd N t) (ha : alk c t) : fX10_areAlike n μ = some 1 ∧ ∃ μ', fX10_distance n μ = some (dst c t, μ') ∧ SM μ' N m c t ∧ Fr [79, 89] (up μ 78 4 0) μ' := by
  have hr := sps_r hV hV'
  have h2 := sps_2 hV hV' ha
  have hA : fX10_areAlike n μ = some 1 := by
    obtain ⟨b, q1, q2⟩ := m_areAlike hn h.2.2.1 hV h.2.2.2 hV'
    rcases q2 with ⟨rfl, -⟩ | ⟨-, q⟩
    · exact q1
    · exact absurd ha q
  refine ⟨hA, ?_⟩
  have h0 : SM (up μ 78 4 0) N m c t := h.kp (up_ne (μ := μ) (a := 78) (b := 79) (i := 4) (v := 0) (by decide))
  have hd := m_differenceNow hn h0.2.2.1 hV h0.2.2.2 hV'
  have hg : fX10_good 1 μ = some (1, up μ 78 4 0) := by
    simp (disch := omega) only [fX10_good, qPf_eq, qbl, wr_id, if_neg, Option.bind_some]
    rfl
  by_cases c0 : sps c t = 0
  · refine ⟨up μ 78 4 0, ?_, h0, Fr.rf _ _⟩
    unfold dst
    rw [if_pos c0]
    simp (disch := omega) only [fX10_distance, hA, hg, Option.bind_some, hd, wr_id, if_pos, if_neg]
  · obtain ⟨b, μ1, s1, s2, s3, s4⟩ := m_isOneAway hn h0 hV hV' ha (by omega)
    unfold dst
    rw [if_neg c0]
    rcases s4 with ⟨rfl, s4⟩ | ⟨rfl, s4⟩
    · refine ⟨μ1, ?_, s2, s3.wk (by simp)⟩
      rw [if_pos s4]
      simp (disch := omega) only [fX10_distance, hA, hg, Option.bind_some, hd, wr_id, if_neg, s1]
    · obtain ⟨b2, μ2, w1, w2, w3, w4⟩ := m_isTwoAway hn s2 hV hV' ha (by omega)
      refine ⟨μ2, ?_, w2, (s3.wk (by simp)).tr w3⟩
      rw [if_neg s4]
      rcases w4 with ⟨rfl, w4⟩ | ⟨rfl, w4⟩
      · rw [if_pos w4]
        simp (disch := omega) only [fX10_distance, hA, hg, Option.bind_some, hd, wr_id, if_neg, s1, w1, ite_true]
      · rw [if_neg w4]
        simp (disch := omega) only [fX10_distance, hA, hg, Option.bind_some, hd, wr_id, if_neg, s1, w1, ite_true]
end DIS
