/-! CALLS: queries that may throw -/
theorem EV.mr {e : qEn} (h : EV e) : 0 ≤ e.2.1 ∧ e.2.1 ≤ 2 := h.2.2
section CAL
variable {μ : qMu} {n : Nat} {e : qEn} {pp h : Nat} {E : Nat → qEn}
theorem wr_bo (x : Int) : wr (if wr x = 0 then 0 else 1) = 0 ↔ wr x = 0 := by
  by_cases q : wr x = 0
  · rw [if_pos q]
    exact ⟨fun _ => q, fun _ => rfl⟩
  · rw [if_neg q]
    exact ⟨fun z => absurd z n1w, fun z => absurd z q⟩
theorem x_choose (x : Int) : fX9_choose (if wr x = 0 then 0 else 1) μ = some (if wr x = 0 then 11 else 13) := by
  unfold fX9_choose
  simp only [wr_bo]
theorem m_table (x : Int) : fX10_table (if wr x = 0 then 0 else 1) μ = some (if wr x = 0 then 2 else 66) := by
  unfold fX10_table
  simp only [wr_bo]
  by_cases q : wr x = 0
  · rw [if_pos q, if_pos q]
  · rw [if_neg q, if_neg q]
theorem put92 (v : Int) : qSa μ 92 1 0 v = some (up μ 92 0 v) := qSa_in (by omega)
theorem at92 {v : Int} (h : I32 v) : rd (up μ 92 0 v) 92 0 = v := rd_at.trans (wr_id h.1 h.2)
theorem j_times {p q r : Int} (R : RR μ e pp h E) (hp : I32 p) (hq : I32 q) : JT (fun x => x) (fL_times p q (if wr r = 0 then 0 else 1)) (fX10_times p q (if wr r = 0 then 0 else 1)) μ := by
  have hN := R.1.1.N
  have a1 := x_cv R.2.1 R.1 hp
  have a2 := x_cv R.2.1 R.1 hq
  by_cases c : (0 ≤ p ∧ p < e.1) ∧ (0 ≤ q ∧ q < e.1)
  · rw [if_pos c.1] at a1
    rw [if_pos c.2] at a2
    obtain ⟨v, hv, b1, b2⟩ : ∃ v, I32 v ∧ (∀ y, y = (if wr r = 0 then 11 else 13) → fX1_between y p q μ = some v) ∧ ∀ (ν : qMu) (y : Int), CM ν e → y = (if wr r = 0 then 2 else 66) → fX10_many y p q ν = some v := by
      by_cases z : wr r = 0
      · have hr := R.1.1.r p q
        exact ⟨e.2.2.1 p q, ⟨by omega, by omega⟩, fun y hy => by rw [hy, if_pos z]; exact x_between R.2.1.1.1 (by omega) (by omega), fun ν y hν hy => by rw [hy, if_pos z]; exact m_many hν.2.2.1 (Or.inl rfl) (by omega) (by omega)⟩
      · have hr := R.1.2.1.r p q
        exact ⟨e.2.2.2 p q, ⟨by omega, by omega⟩, fun y hy => by rw [hy, if_neg z]; exact x_between R.2.1.2.1.1 (by omega) (by omega), fun ν y hν hy => by rw [hy, if_neg z]; exact m_many hν.2.2.2 (Or.inr rfl) (by omega) (by omega)⟩
    have f1 : FC μ (up μ 92 0 v) := FC.at92 _ _
    have R1 := R.c f1
    have m1 := m_av R1.2.2.1 R1.1 hp hq
    rw [if_pos c] at m1
    have R2 : CM (up (up μ 92 0 v) 78 4 0) e := R1.2.2.1.kp (up_ne (by decide))
    refine JT.mk (k := 0) (b := v) R ?_ f1 ?_ (FN.t4 _ 0) R2 rd_at (fun _ => at92 hv)
    · unfold fL_times fX9_times
      rw [a1, obs, Sum.elim_inl, a2, obs, Sum.elim_inl, x_choose, obs, b1 _ rfl, obs, obs, Sum.elim_inl, put92]
      rfl
    · unfold fX10_times
      rw [m1, obs, m_good1 rfl, obs, if_neg (show ¬ wr 1 = 0 by decide), m_table, obs, b2 _ _ R2 rfl]
      rfl
  · have m1 := m_av R.2.2.1 R.1 hp hq
    rw [if_neg c] at m1
    refine JT.mk (k := 1) (b := 0) R ?_ (FC.rf μ) ?_ (FN.t4 _ 1) (R.2.2.1.kp (up_ne (by decide))) rd_at (fun z => absurd z (by decide))
    · unfold fL_times fX9_times
      by_cases c1 : 0 ≤ p ∧ p < e.1
      · rw [if_pos c1] at a1
        rw [if_neg (fun z => c ⟨c1, z⟩)] at a2
        rw [a1, obs, Sum.elim_inl, a2]
        rfl
      · rw [if_neg c1] at a1
        rw [a1]
        rfl
    · unfold fX10_times
      rw [m1, obs, m_good0 rfl]
      rfl
theorem j_degree {p r : Int} (hn : 5000 ≤ n) (R : RR μ e pp h E) (hp : I32 p) : JT (fun x => x) (fL_degree n p (if wr r = 0 then 0 else 1)) (fX10_degree n p (if wr r = 0 then 0 else 1)) μ := by
  have hN := R.1.1.N
  have a1 := x_cv R.2.1 R.1 hp
  by_cases c : 0 ≤ p ∧ p < e.1
  · rw [if_pos c] at a1
    obtain ⟨v, hv, b1, b2⟩ : ∃ v, I32 v ∧ (∀ y, y = (if wr r = 0 then 11 else 13) → fX1_degreeOf n y p μ = some v) ∧ ∀ (ν : qMu) (y : Int), CM ν e → y = (if wr r = 0 then 2 else 66) → fX10_degreeOf n y p ν = some v := by
      by_cases z : wr r = 0
      · have hr := R.1.1.dg p
        exact ⟨dgs e.2.2.1 p, ⟨by omega, by omega⟩, fun y hy => by rw [hy, if_pos z]; exact x_degreeOf hn R.2.1.1.1 R.1.1 (by omega), fun ν y hν hy => by rw [hy, if_pos z]; exact m_degreeOf hn hν.2.2.1 (Or.inl rfl) (by omega)⟩
      · have hr := R.1.2.1.dg p
        exact ⟨dgs e.2.2.2 p, ⟨by omega, by omega⟩, fun y hy => by rw [hy, if_neg z]; exact x_degreeOf hn R.2.1.2.1.1 R.1.2.1 (by omega), fun ν y hν hy => by rw [hy, if_neg z]; exact m_degreeOf hn hν.2.2.2 (Or.inr rfl) (by omega)⟩
    have f1 : FC μ (up μ 92 0 v) := FC.at92 _ _
    have R1 := R.c f1
    have m1 := m_iv R1.2.2.1 R1.1 hp
    rw [if_pos c] at m1
    have R2 : CM (up (up μ 92 0 v) 78 4 0) e := R1.2.2.1.kp (up_ne (by decide))
    refine JT.mk (k := 0) (b := v) R ?_ f1 ?_ (FN.t4 _ 0) R2 rd_at (fun _ => at92 hv)
    · unfold fL_degree fX9_degree
      rw [a1, obs, Sum.elim_inl, x_choose, obs, b1 _ rfl, obs, obs, Sum.elim_inl, put92]
      rfl
    · unfold fX10_degree
      rw [m1, obs, m_good1 rfl, obs, if_neg (show ¬ wr 1 = 0 by decide), m_table, obs, b2 _ _ R2 rfl]
      rfl
  · rw [if_neg c] at a1
    have m1 := m_iv R.2.2.1 R.1 hp
    rw [if_neg c] at m1
    refine JT.mk (k := 1) (b := 0) R ?_ (FC.rf μ) ?_ (FN.t4 _ 1) (R.2.2.1.kp (up_ne (by decide))) rd_at (fun z => absurd z (by decide))
    · unfold fL_degree fX9_degree
      rw [a1]
      rfl
    · unfold fX10_degree
      rw [m1, obs, m_good0 rfl]
      rfl
theorem nbs_r (c : Int → Int → Int) (u : Int) : 0 ≤ nbs c u ∧ nbs c u ≤ 8 := by
  have h1 : 0 ≤ nbs c u := rs_nn (fun k _ _ => by split <;> omega)
  have h2 : nbs c u ≤ rs (fun _ => (1 : Int)) 0 8 := rs_le (fun k _ _ => by split <;> omega)
  have h3 : rs (fun _ => (1 : Int)) 0 8 = 8 := rfl
  omega
theorem j_neighbours {p : Int} (hn : 5000 ≤ n) (R : RR μ e pp h E) (hp : I32 p) : JT (fun x => x) (fL_neighbours n p) (fX10_neighbours n p) μ := by
  have hN := R.1.1.N
  have a1 := x_cv R.2.1 R.1 hp
  by_cases c : 0 ≤ p ∧ p < e.1
  · rw [if_pos c] at a1
    have hv := nbs_r e.2.2.1 p
    have b1 := x_neighbourCount hn R.2.1.1.1 R.1.1 (u := p) (by omega)
    have f1 : FC μ (up μ 92 0 (nbs e.2.2.1 p)) := FC.at92 _ _
    have R1 := R.c f1
    have m1 := m_iv R1.2.2.1 R1.1 hp
    rw [if_pos c] at m1
    have R2 : CM (up (up μ 92 0 (nbs e.2.2.1 p)) 78 4 0) e := R1.2.2.1.kp (up_ne (by decide))
    have b2 := m_neighbours hn R2.2.2.1 R.1.1 (u := p) (by omega)
    refine JT.mk (k := 0) (b := nbs e.2.2.1 p) R ?_ f1 ?_ (FN.t4 _ 0) R2 rd_at (fun _ => at92 ⟨by omega, by omega⟩)
    · unfold fL_neighbours fX9_neighbours
      rw [a1, obs, Sum.elim_inl, b1, obs, obs, Sum.elim_inl, put92]
      rfl
    · unfold fX10_neighbours
      rw [m1, obs, m_good1 rfl, obs, if_neg (show ¬ wr 1 = 0 by decide), b2]
      rfl
  · rw [if_neg c] at a1
    have m1 := m_iv R.2.2.1 R.1 hp
    rw [if_neg c] at m1
    refine JT.mk (k := 1) (b := 0) R ?_ (FC.rf μ) ?_ (FN.t4 _ 1) (R.2.2.1.kp (up_ne (by decide))) rd_at (fun z => absurd z (by decide))
    · unfold fL_neighbours fX9_neighbours
      rw [a1]
      rfl
    · unfold fX10_neighbours
      rw [m1, obs, m_good0 rfl]
      rfl
theorem cmp_rr {N : Int} {c : Int → Int → Int} (hV : Vd N c) {v : Int} (hv : 0 ≤ v ∧ v < N) : (0 ≤ cmp N c v ∧ cmp N c v < nco N c) ∧ nco N c ≤ 8 := by
  have hN := hV.N
  have hL := (Lb_ok hV).1 v hv
  have h1 := idx_nn (Lb N c) (Lb N c v)
  have h2 := idx_lt (Lb N c) (a := Lb N c v) (b := N) (by omega) (by omega) hL.2.2
  have h3 := idx_le (Lb N c) (v := N) (by omega)
  unfold cmp nco
  omega
theorem j_component {p : Int} (hn : 5000 ≤ n) (R : RR μ e pp h E) (hp : I32 p) : JT (fun x => x) (fL_component n p) (fX10_component n p) μ := by
  have hN := R.1.1.N
  have a1 := x_cv R.2.1 R.1 hp
  by_cases c : 0 ≤ p ∧ p < e.1
  · rw [if_pos c] at a1
    have hv := cmp_rr R.1.1 (v := p) c
    obtain ⟨μ1, b1, b2, -, -, b3, -⟩ := x_parts hn R.2.1.1.1 R.1.1 (by decide)
    have f1 : FC μ (up μ1 92 0 (cmp e.1 e.2.2.1 p)) := (b2.c (by decide)).tr (FC.at92 _ _)
    have R1 := R.c f1
    have m1 := m_iv R1.2.2.1 R1.1 hp
    rw [if_pos c] at m1
    have R2 : CM (up (up μ1 92 0 (cmp e.1 e.2.2.1 p)) 78 4 0) e := R1.2.2.1.kp (up_ne (by decide))
    obtain ⟨μ2, d1, d2, d3⟩ := m_parts hn R2 R.1.1
    refine JT.mk (k := 0) (b := cmp e.1 e.2.2.1 p) R ?_ f1 ?_ ((FN.t4 _ 0).tr (d2.n (by decide))) (R2.kp (d2 79 (by decide))) ?_ (fun _ => at92 ⟨by omega, by omega⟩)
    · unfold fL_component fX9_component
      rw [a1, obs, Sum.elim_inl, b1, obs, b3 p c, obs, obs, Sum.elim_inl, put92]
      rfl
    · unfold fX10_component
      rw [m1, obs, m_good1 rfl, obs, if_neg (show ¬ wr 1 = 0 by decide), d1, obs, qLd_in (by omega), obs, d3 p c, mn_id (by omega) (by omega), if_pos (by omega)]
    · rw [rd_cg (d2 78 (by decide)), rd_at]
      rfl
  · rw [if_neg c] at a1
    have m1 := m_iv R.2.2.1 R.1 hp
    rw [if_neg c] at m1
    refine JT.mk (k := 1) (b := 0) R ?_ (FC.rf μ) ?_ (FN.t4 _ 1) (R.2.2.1.kp (up_ne (by decide))) rd_at (fun z => absurd z (by decide))
    · unfold fL_component fX9_component
      rw [a1]
      rfl
    · unfold fX10_component
      rw [m1, obs, m_good0 rfl]
      rfl
theorem IsW.r {N f v r : Int} {c : Int → Int → Int} (h : IsW N c f v r) : -1 ≤ r ∧ r ≤ 7 := by
  rcases h with h | h
  · omega
  · omega
theorem j_way {p q : Int} (hn : 5000 ≤ n) (R : RR μ e pp h E) (hp : I32 p) (hq : I32 q) : JT (fun x => x) (fL_way n p q) (fX10_way n p q) μ := by
  have hN := R.1.1.N
  have a1 := x_cv R.2.1 R.1 hp
  have a2 := x_cv R.2.1 R.1 hq
  by_cases c : (0 ≤ p ∧ p < e.1) ∧ (0 ≤ q ∧ q < e.1)
  · rw [if_pos c.1] at a1
    rw [if_pos c.2] at a2
    obtain ⟨r, μ1, b1, b2, b3⟩ := x_steps hn R.2.1.1.1 R.1.1 (by decide) c.1 c.2
    have hr := b3.r
    have f1 : FC μ (up μ1 92 0 r) := (b2.c (by decide)).tr (FC.at92 _ _)
    have R1 := R.c f1
    have m1 := m_av R1.2.2.1 R1.1 hp hq
    rw [if_pos c] at m1
    have R2 : CM (up (up μ1 92 0 r) 78 4 0) e := R1.2.2.1.kp (up_ne (by decide))
    obtain ⟨μ3, μ2, d1, d2, d3, d4⟩ := m_way hn R2 R.1.1 c.1 c.2
    have er := d4.uniq b3
    refine JT.mk (k := 0) (b := r) R ?_ f1 ?_ ((FN.t4 _ 0).tr (d3.n (by decide))) (R2.kp (d3 79 (by decide))) ?_ (fun _ => at92 ⟨by omega, by omega⟩)
    · unfold fL_way fX9_way
      rw [a1, obs, Sum.elim_inl, a2, obs, Sum.elim_inl, b1, obs, obs, Sum.elim_inl, put92]
      rfl
    · unfold fX10_way
      rw [m1, obs, m_good1 rfl, obs, if_neg (show ¬ wr 1 = 0 by decide), d1, obs, d2, obs, qLd_in (by omega), obs, wr_rd]
      by_cases z : rd μ2 85 q = 8
      · rw [if_pos z]
        rw [if_pos z] at er
        rw [er]
      · rw [if_neg z]
        rw [if_neg z] at er
        rw [obs, er]
    · rw [rd_cg (d3 78 (by decide)), rd_at]
      rfl
  · have m1 := m_av R.2.2.1 R.1 hp hq
    rw [if_neg c] at m1
    refine JT.mk (k := 1) (b := 0) R ?_ (FC.rf μ) ?_ (FN.t4 _ 1) (R.2.2.1.kp (up_ne (by decide))) rd_at (fun z => absurd z (by decide))
    · unfold fL_way fX9_way
      by_cases c1 : 0 ≤ p ∧ p < e.1
      · rw [if_pos c1] at a1
        rw [if_neg (fun z => c ⟨c1, z⟩)] at a2
        rw [a1, obs, Sum.elim_inl, a2]
        rfl
      · rw [if_neg c1] at a1
        rw [a1]
        rfl
    · unfold fX10_way
      rw [m1, obs, m_good0 rfl]
      rfl
theorem j_sorted {p : Int} (hn : 5000 ≤ n) (R : RR μ e pp h E) (hp : I32 p) : JT (fun x => x) (fL_sorted n p) (fX10_sorted n p) μ := by
  have hN := R.1.1.N
  have eN : ((e.1.toNat : Nat) : Int) = e.1 := by omega
  have a1 := x_cv R.2.1 R.1 hp
  by_cases c : 0 ≤ p ∧ p < e.1
  · rw [if_pos c] at a1
    have hv := srt_r (dgs e.2.2.1) 1000 R.1.1.dg1 e.1.toNat p (by omega) (by omega)
    obtain ⟨μ1, b1, b2, b3⟩ := x_take (q := 22) (g := 11) hn R.2.1.1.1 R.1.1 (by decide)
    have f1 : FC μ (up μ1 92 0 (srt (dgs e.2.2.1) e.1.toNat p)) := (b3.c (by decide)).tr (FC.at92 _ _)
    have R1 := R.c f1
    have m1 := m_iv R1.2.2.1 R1.1 hp
    rw [if_pos c] at m1
    have R2 : CM (up (up μ1 92 0 (srt (dgs e.2.2.1) e.1.toNat p)) 78 4 0) e := R1.2.2.1.kp (up_ne (by decide))
    obtain ⟨μ2, d1, d2, d3⟩ := m_orders hn R2 R.1.1
    refine JT.mk (k := 0) (b := srt (dgs e.2.2.1) e.1.toNat p) R ?_ f1 ?_ ((FN.t4 _ 0).tr (d2.n (by decide))) (R2.kp (d2 79 (by decide))) ?_ (fun _ => at92 ⟨by omega, by omega⟩)
    · have eg : fX6_greatest 22 p μ1 = some (srt (dgs e.2.2.1) e.1.toNat p) := by
        have := b2.2.2.2 p (by omega) (by omega)
        unfold fX6_greatest
        rw [qLd_in (by omega), this]
        rfl
      unfold fL_sorted fX9_sorted
      rw [a1, obs, Sum.elim_inl, b1, obs, eg, obs, obs, Sum.elim_inl, put92]
      rfl
    · unfold fX10_sorted
      rw [m1, obs, m_good1 rfl, obs, if_neg (show ¬ wr 1 = 0 by decide), d1, obs, qLd_in (by omega), obs, d3 p c.1 c.2]
    · rw [rd_cg (d2 78 (by decide)), rd_at]
      rfl
  · rw [if_neg c] at a1
    have m1 := m_iv R.2.2.1 R.1 hp
    rw [if_neg c] at m1
    refine JT.mk (k := 1) (b := 0) R ?_ (FC.rf μ) ?_ (FN.t4 _ 1) (R.2.2.1.kp (up_ne (by decide))) rd_at (fun z => absurd z (by decide))
    · unfold fL_sorted fX9_sorted
      rw [a1]
      rfl
    · unfold fX10_sorted
      rw [m1, obs, m_good0 rfl]
      rfl
theorem j_slack {p : Int} (hn : 5000 ≤ n) (R : RR μ e pp h E) (hp : I32 p) : JT (fun x => x) (fL_slack n p) (fX10_slack n p) μ := by
  have hN := R.1.1.N
  have eN : ((e.1.toNat : Nat) : Int) = e.1 := by omega
  have hp' : -2147483648 ≤ p ∧ p ≤ 2147483647 := hp
  have vc : fX1_vertexCount 11 μ = some e.1 := congrArg some R.2.1.1.1.1
  have hi : ∀ ν, fX10_isIn p 1 e.1 ν = some (if 1 ≤ p ∧ p ≤ e.1 then 1 else 0) := fun ν => m_isInG hp ⟨by omega, by omega⟩ ⟨by omega, by omega⟩
  by_cases c : 1 ≤ p ∧ p ≤ e.1
  · simp only [if_pos c] at hi
    have hd := R.1.1.dg1
    obtain ⟨μ1, b1, b2, b3⟩ := x_take (q := 22) (g := 11) hn R.2.1.1.1 R.1.1 (by decide)
    have hsl := x_slackOf hn b2 (by omega) hd (k := p) (by omega)
    rw [eN] at hsl
    have hv := slk_r (o := srt (dgs e.2.2.1) e.1.toNat) (N := e.1) (k := p) (by omega) (fun i i1 i2 => srt_r (dgs e.2.2.1) 1000 hd e.1.toNat i i1 (by omega)) (by omega)
    have f1 : FC μ (up μ1 92 0 (slk (srt (dgs e.2.2.1) e.1.toNat) e.1 p)) := (b3.c (by decide)).tr (FC.at92 _ _)
    have R1 := R.c f1
    have R2 : CM (up (up μ1 92 0 (slk (srt (dgs e.2.2.1) e.1.toNat) e.1 p)) 78 4 0) e := R1.2.2.1.kp (up_ne (by decide))
    obtain ⟨μ2, d1, d2, d3⟩ := m_orders hn R2 R.1.1
    have R3 := R2.kp (d2 79 (by decide))
    have hs2 := m_slackOf hn R3.1 hN d3 (fun i i1 i2 => srt_r (dgs e.2.2.1) 1000 hd e.1.toNat i i1 (by omega)) (k := p) (by omega)
    refine JT.mk (k := 0) (b := slk (srt (dgs e.2.2.1) e.1.toNat) e.1 p) R ?_ f1 ?_ ((FN.t4 _ 0).tr (d2.n (by decide))) R3 ?_ (fun _ => at92 ⟨by omega, by omega⟩)
    · unfold fL_slack fX9_slack
      rw [hp.w, if_neg (by omega), vc, obs, wr_id (by omega) (by omega), if_neg (by omega), b1, obs, hsl, obs, obs, Sum.elim_inl, put92]
      rfl
    · have e0 : rd (up μ1 92 0 (slk (srt (dgs e.2.2.1) e.1.toNat) e.1 p)) 79 0 = e.1 := R1.2.2.1.1
      unfold fX10_slack
      rw [qLd_in (by omega), obs, e0, hi, obs, m_good1 rfl, obs, if_neg (show ¬ wr 1 = 0 by decide), d1, obs, hs2]
      rfl
    · rw [rd_cg (d2 78 (by decide)), rd_at]
      rfl
  · simp only [if_neg c] at hi
    refine JT.mk (k := 1) (b := 0) R ?_ (FC.rf μ) ?_ (FN.t4 _ 1) (R.2.2.1.kp (up_ne (by decide))) rd_at (fun z => absurd z (by decide))
    · unfold fL_slack fX9_slack
      rw [hp.w]
      by_cases c1 : p < 1
      · rw [if_pos c1]
        rfl
      · rw [if_neg c1, vc, obs, wr_id (by omega) (by omega), if_pos (by omega)]
        rfl
    · have e0 : rd μ 79 0 = e.1 := R.2.2.1.1
      unfold fX10_slack
      rw [qLd_in (by omega), obs, e0, hi, obs, m_good0 rfl]
      rfl
end CAL
