section CA2
variable {μ : qMu} {n : Nat} {e : qEn} {pp h : Nat} {E : Nat → qEn}
theorem sep_2 {N u v : Int} {c : Int → Int → Int} (hV : Vd N c) (hu : 0 ≤ u ∧ u < N) (hv : 0 ≤ v ∧ v < N) (h2 : 2 ≤ c u v) : sep N c u v = 0 := by
  have hV' := hV.less (u := u) (v := v) (by omega)
  have e1 : addc c u v (-1) u v = c u v + -1 := by
    unfold addc
    rw [if_pos (Or.inl ⟨rfl, rfl⟩)]
  have := (Lb_ok hV').2.1 u v hu hv (by omega)
  unfold sep
  rw [if_pos this]
theorem I32_b {c : Prop} {i : Decidable c} : I32 (@ite _ c i 0 1) := by
  unfold I32
  split <;> omega
theorem sep_01 (N : Int) (c : Int → Int → Int) (u v : Int) : sep N c u v = 0 ∨ sep N c u v = 1 := by
  unfold sep
  split
  · exact Or.inl rfl
  · exact Or.inr rfl
theorem sep_s {N u : Int} {c : Int → Int → Int} : sep N c u u = 0 := if_pos rfl
theorem j_isBridge {p q : Int} (hn : 5000 ≤ n) (R : RR μ e pp h E) (hp : I32 p) (hq : I32 q) : JT (fun x => if wr x = 0 then 0 else 1) (fL_isBridge n p q) (fX10_isBridge n p q) μ := by
  have hN := R.1.1.N
  have a1 := x_cv R.2.1 R.1 hp
  have a2 := x_cv R.2.1 R.1 hq
  by_cases c : (0 ≤ p ∧ p < e.1) ∧ (0 ≤ q ∧ q < e.1)
  · rw [if_pos c.1] at a1
    rw [if_pos c.2] at a2
    have hc := R.1.1.r p q
    have a3 : fX1_between 11 p q μ = some (e.2.2.1 p q) := x_between R.2.1.1.1 (by omega) (by omega)
    by_cases c2 : e.2.2.1 p q = 0
    · have m1 := m_av R.2.2.1 R.1 hp hq
      rw [if_pos c] at m1
      have m2 : fX10_many 2 p q μ = some (e.2.2.1 p q) := m_many R.2.2.1.2.2.1 (Or.inl rfl) (by omega) (by omega)
      obtain ⟨μ2, g1, g2, g3⟩ := m_good2 (μ := μ) (a := 1) (b := 0) (Or.inr rfl) (Or.inl rfl)
      refine JT.mk (k := 2) (b := 0) R ?_ (FC.rf μ) ?_ g2.n (R.2.2.1.kp (g2.1 79 (by decide))) g3 (fun z => absurd z (by decide))
      · unfold fL_isBridge fX9_isBridge fX9_checkEdge
        rw [a1, obs, Sum.elim_inl, a2, obs, Sum.elim_inl, a3, obs, c2]
        rfl
      · unfold fX10_isBridge
        rw [m1, obs, if_neg (show ¬ wr 1 = 0 by decide), m2, obs, c2, if_neg (show ¬ 0 < wr 0 by decide), obs, g1]
        rfl
    · obtain ⟨μ1, b1, b2⟩ := x_separates hn R.2.1.1 R.1.1 c2
      have f1 : FC μ (up μ1 92 0 (if wr (sep e.1 e.2.2.1 p q) = 0 then 0 else 1)) := (b2.c (by decide)).tr (FC.at92 _ _)
      have R1 := R.c f1
      have hs := sep_01 e.1 e.2.2.1 p q
      generalize hμ : up μ1 92 0 (if wr (sep e.1 e.2.2.1 p q) = 0 then 0 else 1) = μ3 at *
      have m1 := m_av R1.2.2.1 R.1 hp hq
      rw [if_pos c] at m1
      have m2 : fX10_many 2 p q μ3 = some (e.2.2.1 p q) := m_many R1.2.2.1.2.2.1 (Or.inl rfl) (by omega) (by omega)
      obtain ⟨μ4, g1, g2, g3⟩ := m_good2 (μ := μ3) (a := 1) (b := 1) (Or.inr rfl) (Or.inr rfl)
      rw [if_pos ⟨rfl, rfl⟩] at g1
      have R4 : CM μ4 e := R1.2.2.1.kp (g2.1 79 (by decide))
      obtain ⟨μ2, d1, d2, d3⟩ := m_isBridgeNow hn R4 R.1.1 R.1.2.1 c.1 c.2
      have ev : (if p = q then 0 else brg e.1 e.2.2.1 p q) = sep e.1 e.2.2.1 p q := by
        by_cases z : p = q
        · rw [if_pos z, z, sep_s]
        · rw [if_neg z]
          unfold brg
          by_cases z2 : e.2.2.1 p q = 1
          · rw [if_pos z2]
          · rw [if_neg z2, sep_2 R.1.1 c.1 c.2 (by omega)]
      rw [ev] at d1
      have e92 : rd μ3 92 0 = if wr (sep e.1 e.2.2.1 p q) = 0 then 0 else 1 := by
        rw [← hμ]
        exact at92 I32_b
      refine JT.mk (k := 0) (b := if wr (sep e.1 e.2.2.1 p q) = 0 then 0 else 1) R ?_ f1 ?_ (g2.n.tr (d3.n (by decide))) d2 ?_ (fun _ => ?_)
      · unfold fL_isBridge fX9_isBridge fX9_checkEdge
        rw [a1, obs, Sum.elim_inl, a2, obs, Sum.elim_inl, a3, obs, wr_id (by omega) (by omega), if_neg c2, obs, Sum.elim_inl, b1, obs]
        rcases hs with hs | hs
        · rw [hs] at hμ ⊢
          rw [← hμ]
          rfl
        · rw [hs] at hμ ⊢
          rw [← hμ]
          rfl
      · unfold fX10_isBridge
        rw [m1, obs, if_neg (show ¬ wr 1 = 0 by decide), m2, obs, wr_id (by omega) (by omega), if_pos (by omega), obs, g1, obs, if_neg n1w, d1, obs]
        by_cases z : wr (sep e.1 e.2.2.1 p q) = 0
        · rw [if_pos z, if_pos z]
        · rw [if_neg z, if_neg z]
      · rw [rd_cg (d3 78 (by decide)), g3]
        rfl
      · rw [e92]
        simp only [wr_bo]
  · have m1 := m_av R.2.2.1 R.1 hp hq
    rw [if_neg c] at m1
    obtain ⟨μ2, g1, g2, g3⟩ := m_good2 (μ := μ) (a := 0) (b := 0) (Or.inl rfl) (Or.inl rfl)
    refine JT.mk (k := 1) (b := 0) R ?_ (FC.rf μ) ?_ g2.n (R.2.2.1.kp (g2.1 79 (by decide))) g3 (fun z => absurd z (by decide))
    · unfold fL_isBridge fX9_isBridge
      by_cases c1 : 0 ≤ p ∧ p < e.1
      · rw [if_pos c1] at a1
        rw [if_neg (fun z => c ⟨c1, z⟩)] at a2
        rw [a1, obs, Sum.elim_inl, a2]
        rfl
      · rw [if_neg c1] at a1
        rw [a1]
        rfl
    · unfold fX10_isBridge
      rw [m1, obs, if_pos (show wr 0 = 0 from rfl), obs, g1]
      rfl
theorem x_cm {p : Int} (hp : I32 p) : fX9_checkMode p μ = some (if 0 ≤ p ∧ p ≤ 2 then .inl 0 else .inr 1) := by
  have hp' : -2147483648 ≤ p ∧ p ≤ 2147483647 := hp
  by_cases q1 : p < 0
  · rw [if_neg (by omega)]
    simp (disch := omega) only [ite_true, fX9_checkMode, wr_id, if_pos]
  · by_cases q2 : 2 < p
    · rw [if_neg (by omega)]
      simp (disch := omega) only [ite_true, fX9_checkMode, wr_id, if_pos, if_neg]
    · rw [if_pos (by omega)]
      simp (disch := omega) only [ite_true, fX9_checkMode, wr_id, if_neg]
theorem x_cw {p : Int} (hp : I32 p) : fX9_checkWhat p μ = some (if 0 ≤ p ∧ p ≤ 3 then .inl 0 else .inr 1) := by
  have hp' : -2147483648 ≤ p ∧ p ≤ 2147483647 := hp
  by_cases q1 : p < 0
  · rw [if_neg (by omega)]
    simp (disch := omega) only [ite_true, fX9_checkWhat, wr_id, if_pos]
  · by_cases q2 : 3 < p
    · rw [if_neg (by omega)]
      simp (disch := omega) only [ite_true, fX9_checkWhat, wr_id, if_pos, if_neg]
    · rw [if_pos (by omega)]
      simp (disch := omega) only [ite_true, fX9_checkWhat, wr_id, if_neg]
theorem dgs_s (hE : EV e) : rs (dgs e.2.2.1) 0 e.1 ≤ 32 ∧ rs (dgs e.2.2.1) 0 e.1 % 2 = 0 := by
  have hh := hand hE.1
  have h1 := hE.1.2.2.2.2
  omega
theorem j_isPossible {p : Int} (hn : 5000 ≤ n) (R : RR μ e pp h E) (hp : I32 p) : JT (fun x => if wr x = 0 then 0 else 1) (fL_isPossible n p) (fX10_isPossible n p) μ := by
  have hN := R.1.1.N
  have a1 := x_cm (μ := μ) hp
  have hi : ∀ ν, fX10_isIn p 0 2 ν = some (if 0 ≤ p ∧ p ≤ 2 then 1 else 0) := fun ν => m_isInG hp ⟨by omega, by omega⟩ ⟨by omega, by omega⟩
  by_cases c : 0 ≤ p ∧ p ≤ 2
  · rw [if_pos c] at a1
    simp only [if_pos c] at hi
    obtain ⟨μ1, b1, b2, b3⟩ := x_take (q := 22) (g := 11) hn R.2.1.1.1 R.1.1 (by decide)
    have hs := dgs_s R.1
    obtain ⟨v, d1, d2⟩ := x_allows (md := p) hn hN b2 R.1.1.dg1 hs.1 hs.2 c
    have f1 : FC μ (up μ1 92 0 v) := (b3.c (by decide)).tr (FC.at92 _ _)
    have R1 := R.c f1
    have R2 : CM (up (up μ1 92 0 v) 78 4 0) e := R1.2.2.1.kp (up_ne (by decide))
    obtain ⟨w, μ2, g1, g2, g3⟩ := m_isPossibleIn (md := p) hn R2 R.1.1 c
    have hv : v = 0 ∨ v = 1 := by
      rcases d2 with d2 | d2
      · exact Or.inr d2.1
      · exact Or.inl d2.1
    have hw : w = v := by
      rcases d2 with ⟨rfl, d2⟩ | ⟨rfl, d2⟩
      · rcases g3 with ⟨rfl, g3⟩ | ⟨rfl, g3⟩
        · rfl
        · exact absurd d2 g3
      · rcases g3 with ⟨rfl, g3⟩ | ⟨rfl, g3⟩
        · exact absurd g3 d2
        · rfl
    subst hw
    refine JT.mk (k := 0) (b := w) R ?_ f1 ?_ ((FN.t4 _ 0).tr (g2.n (by decide))) (R2.kp (g2 79 (by decide))) ?_ (fun _ => ?_)
    · unfold fL_isPossible fX9_isPossible
      rw [a1, obs, Sum.elim_inl, b1, obs, d1, obs]
      rcases hv with rfl | rfl <;> rfl
    · unfold fX10_isPossible
      rw [hi, obs, m_good1 rfl, obs, if_neg (show ¬ wr 1 = 0 by decide), g1, obs]
      rcases hv with rfl | rfl <;> rfl
    · rw [rd_cg (g2 78 (by decide)), rd_at]
      rfl
    · rw [rd_at]
      rcases hv with rfl | rfl <;> rfl
  · rw [if_neg c] at a1
    simp only [if_neg c] at hi
    refine JT.mk (k := 1) (b := 0) R ?_ (FC.rf μ) ?_ (FN.t4 _ 1) (R.2.2.1.kp (up_ne (by decide))) rd_at (fun z => absurd z (by decide))
    · unfold fL_isPossible fX9_isPossible
      rw [a1]
      rfl
    · unfold fX10_isPossible
      rw [hi, obs, m_good0 rfl]
      rfl
def V4 (N p q r s : Int) : Prop := ((0 ≤ p ∧ p < N) ∧ (0 ≤ q ∧ q < N)) ∧ (0 ≤ r ∧ r < N) ∧ (0 ≤ s ∧ s < N)
theorem V4.r {N p q r s : Int} (h : V4 N p q r s) (hN : N ≤ 8) : (0 ≤ p ∧ p < 8) ∧ (0 ≤ q ∧ q < 8) ∧ (0 ≤ r ∧ r < 8) ∧ (0 ≤ s ∧ s < 8) := by
  unfold V4 at h
  omega
theorem x_cvs (hC : CX μ e) (hE : EV e) {p q r s : Int} (hp : I32 p) (hq : I32 q) (hr : I32 r) (hs : I32 s) : (V4 e.1 p q r s ∧ fX9_checkVertices p q r s μ = some (.inl 0)) ∨ (¬ V4 e.1 p q r s ∧ fX9_checkVertices p q r s μ = some (.inr 0)) := by
  have a1 := x_cv hC hE hp
  have a2 := x_cv hC hE hq
  have a3 := x_cv hC hE hr
  have a4 := x_cv hC hE hs
  unfold fX9_checkVertices
  by_cases c1 : 0 ≤ p ∧ p < e.1
  · rw [if_pos c1] at a1
    rw [a1, obs, Sum.elim_inl]
    by_cases c2 : 0 ≤ q ∧ q < e.1
    · rw [if_pos c2] at a2
      rw [a2, obs, Sum.elim_inl]
      by_cases c3 : 0 ≤ r ∧ r < e.1
      · rw [if_pos c3] at a3
        rw [a3, obs, Sum.elim_inl]
        by_cases c4 : 0 ≤ s ∧ s < e.1
        · rw [if_pos c4] at a4
          rw [a4]
          exact Or.inl ⟨⟨⟨c1, c2⟩, c3, c4⟩, rfl⟩
        · rw [if_neg c4] at a4
          rw [a4]
          exact Or.inr ⟨fun z => c4 z.2.2, rfl⟩
      · rw [if_neg c3] at a3
        rw [a3]
        exact Or.inr ⟨fun z => c3 z.2.1, rfl⟩
    · rw [if_neg c2] at a2
      rw [a2]
      exact Or.inr ⟨fun z => c2 z.1.2, rfl⟩
  · rw [if_neg c1] at a1
    rw [a1]
    exact Or.inr ⟨fun z => c1 z.1.1, rfl⟩
/-- the two tests of the reference -/
theorem m_avs (hC : CM μ e) (hE : EV e) {p q r s : Int} (hp : I32 p) (hq : I32 q) (hr : I32 r) (hs : I32 s) : ∃ y1 y3 : Int, fX10_areVertices p q μ = some y1 ∧ (if wr y1 = 0 then some 0 else (fX10_areVertices r s μ).bind fun y4 => if wr y4 = 0 then some 0 else some 1 : Option Int) = some y3 ∧ (V4 e.1 p q r s ∧ y3 = 1 ∨ ¬ V4 e.1 p q r s ∧ y3 = 0) := by
  have a1 := m_av hC hE hp hq
  have a2 := m_av hC hE hr hs
  by_cases c1 : (0 ≤ p ∧ p < e.1) ∧ (0 ≤ q ∧ q < e.1)
  · rw [if_pos c1] at a1
    by_cases c2 : (0 ≤ r ∧ r < e.1) ∧ (0 ≤ s ∧ s < e.1)
    · rw [if_pos c2] at a2
      exact ⟨1, 1, a1, by rw [a2]; rfl, Or.inl ⟨⟨c1, c2⟩, rfl⟩⟩
    · rw [if_neg c2] at a2
      exact ⟨1, 0, a1, by rw [a2]; rfl, Or.inr ⟨fun z => c2 z.2, rfl⟩⟩
  · rw [if_neg c1] at a1
    exact ⟨0, 0, a1, rfl, Or.inr ⟨fun z => c1 z.1, rfl⟩⟩
theorem j_reason {p q r s : Int} (R : RR μ e pp h E) (hp : I32 p) (hq : I32 q) (hr : I32 r) (hs : I32 s) : JT (fun x => x) (fL_reason p q r s) (fX10_reason p q r s) μ := by
  have hN := R.1.1.N
  have hm := R.1.mr
  rcases x_cvs R.2.1 R.1 hp hq hr hs with ⟨c, a1⟩ | ⟨c, a1⟩
  · obtain ⟨i1, i2, i3, i4⟩ := c.r hN.2
    have b1 := x_reason (m := e.2.1) R.2.1.1.1 R.1.1 hm i1 i2 i3 i4
    have hv := rsn_r e.2.1 e.2.2.1 p q r s
    have e0 : rd μ 0 11 = e.2.1 := R.2.1.2.2
    have f1 : FC μ (up μ 92 0 (rsn e.2.1 e.2.2.1 p q r s)) := FC.at92 _ _
    have R1 := R.c f1
    obtain ⟨y1, y3, m1, m2, m3⟩ := m_avs R1.2.2.1 R.1 hp hq hr hs
    have hy : y3 = 1 := by
      rcases m3 with m3 | m3
      · exact m3.2
      · exact absurd c m3.1
    subst hy
    have R2 : CM (up (up μ 92 0 (rsn e.2.1 e.2.2.1 p q r s)) 78 4 0) e := R1.2.2.1.kp (up_ne (by decide))
    obtain ⟨μ2, d1, d2, d3⟩ := m_reasonBy (p := e.2.1) R2 R.1.1 R.1.2.1 hm i1 i2 i3 i4
    refine JT.mk (k := 0) (b := rsn e.2.1 e.2.2.1 p q r s) R ?_ f1 ?_ ((FN.t4 _ 0).tr (d3.n (by decide))) d2 ?_ (fun _ => at92 ⟨by omega, by omega⟩)
    · unfold fL_reason fX9_reason
      rw [a1, obs, Sum.elim_inl, e0, b1, obs, obs, Sum.elim_inl, put92]
      rfl
    · have e1 : rd (up (up μ 92 0 (rsn e.2.1 e.2.2.1 p q r s)) 78 4 0) 79 1 = e.2.1 := R2.2.1
      unfold fX10_reason
      rw [m1, obs, m2, obs, m_good1 rfl, obs, if_neg (show ¬ wr 1 = 0 by decide), qLd_in (by omega), obs, e1, d1]
      rfl
    · rw [rd_cg (d3 78 (by decide)), rd_at]
      rfl
  · obtain ⟨y1, y3, m1, m2, m3⟩ := m_avs R.2.2.1 R.1 hp hq hr hs
    have hy : y3 = 0 := by
      rcases m3 with m3 | m3
      · exact absurd m3.1 c
      · exact m3.2
    subst hy
    refine JT.mk (k := 1) (b := 0) R ?_ (FC.rf μ) ?_ (FN.t4 _ 1) (R.2.2.1.kp (up_ne (by decide))) rd_at (fun z => absurd z (by decide))
    · unfold fL_reason fX9_reason
      rw [a1]
      rfl
    · unfold fX10_reason
      rw [m1, obs, m2, obs, m_good0 rfl]
      rfl
theorem m_can {p q r s : Int} (hC : CM μ e) (hE : EV e) (hp : I32 p) (hq : I32 q) (hr : I32 r) (hs : I32 s) : ∃ y μ', fX10_canSwitch p q r s μ = some (y, μ') ∧ CM μ' e ∧ FN μ μ' ∧ (∀ a, a ≠ 78 → a ≠ 79 → μ' a = μ a) ∧ ((¬ V4 e.1 p q r s ∧ y = 0 ∧ rd μ' 78 4 = 1) ∨ (V4 e.1 p q r s ∧ rsn e.2.1 e.2.2.1 p q r s ≠ 0 ∧ y = 0 ∧ rd μ' 78 4 = 2) ∨ (V4 e.1 p q r s ∧ rsn e.2.1 e.2.2.1 p q r s = 0 ∧ y = 1 ∧ rd μ' 78 4 = 0)) := by
  have hN := hE.1.N
  have hm := hE.mr
  obtain ⟨y1, y3, m1, m2, m3⟩ := m_avs hC hE hp hq hr hs
  unfold fX10_canSwitch
  rcases m3 with ⟨c, rfl⟩ | ⟨c, rfl⟩
  · obtain ⟨i1, i2, i3, i4⟩ := c.r hN.2
    obtain ⟨μ2, d1, d2, d3⟩ := m_reasonBy (p := e.2.1) hC hE.1 hE.2.1 hm i1 i2 i3 i4
    have e1 : rd μ 79 1 = e.2.1 := hC.2.1
    have hw := rsn_w e.2.1 e.2.2.1 p q r s
    by_cases z : rsn e.2.1 e.2.2.1 p q r s = 0
    · obtain ⟨μ3, g1, g2, g3⟩ := m_good2 (μ := μ2) (a := 1) (b := 1) (Or.inr rfl) (Or.inr rfl)
      refine ⟨1, μ3, ?_, d2.kp (g2.1 79 (by decide)), (d3.n (by decide)).tr g2.n, fun a q1 q2 => (g2.1 a q1).trans (d3 a (by simp [q2])), Or.inr (Or.inr ⟨c, z, rfl, g3⟩)⟩
      rw [m1, obs, m2, obs, if_neg (show ¬ wr 1 = 0 by decide), qLd_in (by omega), obs, e1, d1, obs, hw, if_pos z, obs, g1]
      rfl
    · obtain ⟨μ3, g1, g2, g3⟩ := m_good2 (μ := μ2) (a := 1) (b := 0) (Or.inr rfl) (Or.inl rfl)
      refine ⟨0, μ3, ?_, d2.kp (g2.1 79 (by decide)), (d3.n (by decide)).tr g2.n, fun a q1 q2 => (g2.1 a q1).trans (d3 a (by simp [q2])), Or.inr (Or.inl ⟨c, z, rfl, g3⟩)⟩
      rw [m1, obs, m2, obs, if_neg (show ¬ wr 1 = 0 by decide), qLd_in (by omega), obs, e1, d1, obs, hw, if_neg z, obs, g1]
      rfl
  · obtain ⟨μ3, g1, g2, g3⟩ := m_good2 (μ := μ) (a := 0) (b := 0) (Or.inl rfl) (Or.inl rfl)
    refine ⟨0, μ3, ?_, hC.kp (g2.1 79 (by decide)), g2.n, fun a q1 q2 => g2.1 a q1, Or.inl ⟨c, rfl, g3⟩⟩
    rw [m1, obs, m2, obs, if_pos (show wr 0 = 0 from rfl), obs, g1]
    rfl
theorem x_cp (hC : CX μ e) (hE : EV e) {p q r s : Int} (c : V4 e.1 p q r s) : fX9_checkPossible p q r s μ = some (if rsn e.2.1 e.2.2.1 p q r s = 0 then .inl 0 else .inr 3) := by
  have hN := hE.1.N
  have hm := hE.mr
  obtain ⟨i1, i2, i3, i4⟩ := c.r hN.2
  have b1 := x_reason (m := e.2.1) hC.1.1 hE.1 hm i1 i2 i3 i4
  have e0 : rd μ 0 11 = e.2.1 := hC.2.2
  unfold fX9_checkPossible
  rw [e0, b1, obs, rsn_w]
  by_cases z : rsn e.2.1 e.2.2.1 p q r s = 0
  · rw [if_pos z, if_pos z]
  · rw [if_neg z, if_neg z]
theorem nco_rr {N : Int} {c : Int → Int → Int} (hN : 1 ≤ N ∧ N ≤ 8) : 0 ≤ nco N c ∧ nco N c ≤ 8 := by
  have h1 := idx_nn (Lb N c) N
  have h3 := idx_le (Lb N c) (v := N) (by omega)
  unfold nco
  omega
theorem j_componentsBehind {p q r s : Int} (hn : 5000 ≤ n) (R : RR μ e pp h E) (hp : I32 p) (hq : I32 q) (hr : I32 r) (hs : I32 s) : JT (fun x => x) (fL_componentsBehind n p q r s) (fX10_componentsBehind n p q r s) μ := by
  have hN := R.1.1.N
  have hm := R.1.mr
  rcases x_cvs R.2.1 R.1 hp hq hr hs with ⟨c, a1⟩ | ⟨c, a1⟩
  · have a2 := x_cp R.2.1 R.1 c
    by_cases z : rsn e.2.1 e.2.2.1 p q r s = 0
    · rw [if_pos z] at a2
      obtain ⟨μ5, μ4, μ1, b1, b2, b3, b4, b5, b6⟩ := x_behind hn R.2.1.1 R.1.1 z
      have hv := nco_rr (N := e.1) (c := sw e.2.2.1 p q r s) hN
      have f1 : FC μ (up μ1 92 0 (nco e.1 (sw e.2.2.1 p q r s))) := (b6.c (by decide)).tr (FC.at92 _ _)
      have R1 := R.c f1
      obtain ⟨y, μ3, m1, m2, m3, m4, m5⟩ := m_can R1.2.2.1 R.1 hp hq hr hs
      have hy : y = 1 ∧ rd μ3 78 4 = 0 := by
        rcases m5 with m5 | m5 | m5
        · exact absurd c m5.1
        · exact absurd z m5.2.1
        · exact m5.2.2
      obtain ⟨rfl, h4⟩ := hy
      obtain ⟨μ6, μ7, μ2, d1, d2, d3, d4, d5⟩ := m_behind hn m2 R.1.1 R.1.2.1 z
      refine JT.mk (k := 0) (b := nco e.1 (sw e.2.2.1 p q r s)) R ?_ f1 ?_ (m3.tr (d5.n (by decide))) d4 ((rd_cg (d5 78 (by decide)) 4).trans h4) (fun _ => at92 ⟨by omega, by omega⟩)
      · unfold fL_componentsBehind fX9_componentsBehind
        rw [a1, obs, Sum.elim_inl, a2, obs, Sum.elim_inl, b1, obs, b2, obs, b3, obs, b4, obs, b5, obs, obs, Sum.elim_inl, put92]
        rfl
      · unfold fX10_componentsBehind
        rw [m1, obs, if_neg (show ¬ wr 1 = 0 by decide), d1, obs, d2, obs, d3]
        rfl
    · rw [if_neg z] at a2
      obtain ⟨y, μ3, m1, m2, m3, m4, m5⟩ := m_can R.2.2.1 R.1 hp hq hr hs
      have hy : y = 0 ∧ rd μ3 78 4 = 2 := by
        rcases m5 with m5 | m5 | m5
        · exact absurd c m5.1
        · exact m5.2.2
        · exact absurd m5.2.1 z
      obtain ⟨rfl, h4⟩ := hy
      refine JT.mk (k := 2) (b := 0) R ?_ (FC.rf μ) ?_ m3 m2 h4 (fun q => absurd q (by decide))
      · unfold fL_componentsBehind fX9_componentsBehind
        rw [a1, obs, Sum.elim_inl, a2]
        rfl
      · unfold fX10_componentsBehind
        rw [m1]
        rfl
  · obtain ⟨y, μ3, m1, m2, m3, m4, m5⟩ := m_can R.2.2.1 R.1 hp hq hr hs
    have hy : y = 0 ∧ rd μ3 78 4 = 1 := by
      rcases m5 with m5 | m5 | m5
      · exact m5.2
      · exact absurd m5.1 c
      · exact absurd m5.1 c
    obtain ⟨rfl, h4⟩ := hy
    refine JT.mk (k := 1) (b := 0) R ?_ (FC.rf μ) ?_ m3 m2 h4 (fun q => absurd q (by decide))
    · unfold fL_componentsBehind fX9_componentsBehind
      rw [a1]
      rfl
    · unfold fX10_componentsBehind
      rw [m1]
      rfl
end CA2
