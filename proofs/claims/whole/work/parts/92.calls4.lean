/-! CALLS: queries that throw nothing -/
section CA4
variable {μ μ1 μ2 : qMu} {n : Nat} {e : qEn} {pp h : Nat} {E : Nat → qEn}
def cmpR (v b : Int) (μ : qMu) : Option (Int × qMu) := if wr v = wr b then some (0, μ) else none
theorem jn_0 {fx : qMu → Option Int} {fm : qMu → Option (Int × qMu)} {v : Int} (R : RR μ e pp h E) (hx : fx μ = some v) (hm : fm μ = some (v, μ2)) (f : FN μ μ2) (hC : CM μ2 e) : LK1 ((fx μ).bind fun y1 => (fm μ).bind fun y2 => cmpR y1 y2.1 y2.2) μ := by
  rw [hx, obs, hm, obs]
  exact ⟨0, μ2, if_pos rfl, ⟨e, pp, h, E, R.q f.q hC⟩, f.q.s⟩
theorem jn_1 {fx fm : qMu → Option (Int × qMu)} {v : Int} (R : RR μ e pp h E) (hx : fx μ = some (v, μ1)) (f1 : FC μ μ1) (hm : fm μ1 = some (v, μ2)) (f : FN μ1 μ2) (hC : CM μ2 e) : LK1 ((fx μ).bind fun y1 => (fm y1.2).bind fun y2 => cmpR y1.1 y2.1 y2.2) μ := by
  rw [hx, obs, hm, obs]
  exact ⟨0, μ2, if_pos rfl, ⟨e, pp, h, E, (R.c f1).q f.q hC⟩, f.q.s.trans f1.q.s⟩
theorem CM4 (hC : CM μ e) (v : Int) : CM (up μ 78 4 v) e := hC.kp (up_ne (by decide))
theorem k_errorKind (R : RR μ e pp h E) : LK1 ((fX9_errorKind μ).bind fun y1 => (fX10_errorKind μ).bind fun y2 => cmpR y1 y2.1 y2.2) μ := by
  have h8 := R.2.2.2.2.2.2.2.1
  refine jn_0 (v := rd μ 1 7) (μ2 := up μ 78 4 0) R rfl ?_ (FN.t4 _ 0) (CM4 R.2.2.1 0)
  unfold fX10_errorKind
  rw [qPf_eq, obs, rd_ni (by decide), h8.1]
theorem k_errorPosition (R : RR μ e pp h E) : LK1 ((fX9_errorPosition μ).bind fun y1 => (fX10_errorPosition μ).bind fun y2 => cmpR y1 y2.1 y2.2) μ := by
  have h8 := R.2.2.2.2.2.2.2.1
  refine jn_0 (v := rd μ 1 8) (μ2 := up μ 78 4 0) R rfl ?_ (FN.t4 _ 0) (CM4 R.2.2.1 0)
  unfold fX10_errorPosition
  rw [qPf_eq, obs, rd_ni (by decide), h8.2]
theorem k_vertices (R : RR μ e pp h E) : LK1 ((fX9_vertices μ).bind fun y1 => (fX10_vertices μ).bind fun y2 => cmpR y1 y2.1 y2.2) μ := by
  have R4 := CM4 R.2.2.1 0
  refine jn_0 (v := e.1) (μ2 := up μ 78 4 0) R (congrArg some R.2.1.1.1.1) ?_ (FN.t4 _ 0) R4
  unfold fX10_vertices
  rw [qPf_eq, obs, qLd_in (by omega), obs, R4.1]
theorem k_mode (R : RR μ e pp h E) : LK1 ((fX9_mode μ).bind fun y1 => (fX10_mode μ).bind fun y2 => cmpR y1 y2.1 y2.2) μ := by
  have R4 := CM4 R.2.2.1 0
  refine jn_0 (v := e.2.1) (μ2 := up μ 78 4 0) R (congrArg some R.2.1.2.2) ?_ (FN.t4 _ 0) R4
  unfold fX10_mode
  rw [qPf_eq, obs, qLd_in (by omega), obs, R4.2.1]
theorem k_edges {r : Int} (hn : 5000 ≤ n) (R : RR μ e pp h E) : LK1 ((fX9_edges (if wr r = 0 then 0 else 1) μ).bind fun y1 => (fX10_edges n (if wr r = 0 then 0 else 1) μ).bind fun y2 => cmpR y1 y2.1 y2.2) μ := by
  have R4 := CM4 R.2.2.1 0
  by_cases z : wr r = 0
  · refine jn_0 (fx := fX9_edges (if wr r = 0 then 0 else 1)) (fm := fX10_edges n (if wr r = 0 then 0 else 1)) (v := Ed e.2.2.1) (μ2 := up μ 78 4 0) R ?_ ?_ (FN.t4 _ 0) R4
    · unfold fX9_edges
      rw [x_choose, obs, if_pos z]
      exact congrArg some R.2.1.1.2
    · unfold fX10_edges
      rw [qPf_eq, obs, m_table, obs, if_pos z, m_edgesOf hn R4.2.2.1 (Or.inl rfl)]
      rfl
  · refine jn_0 (fx := fX9_edges (if wr r = 0 then 0 else 1)) (fm := fX10_edges n (if wr r = 0 then 0 else 1)) (v := Ed e.2.2.2) (μ2 := up μ 78 4 0) R ?_ ?_ (FN.t4 _ 0) R4
    · unfold fX9_edges
      rw [x_choose, obs, if_neg z]
      exact congrArg some R.2.1.2.1.2
    · unfold fX10_edges
      rw [qPf_eq, obs, m_table, obs, if_neg z, m_edgesOf hn R4.2.2.2 (Or.inr rfl)]
      rfl
theorem k_loops (hn : 5000 ≤ n) (R : RR μ e pp h E) : LK1 ((fX9_loops n μ).bind fun y1 => (fX10_loops n μ).bind fun y2 => cmpR y1 y2.1 y2.2) μ := by
  have R4 := CM4 R.2.2.1 0
  refine jn_0 (v := lpc e.2.2.1) (μ2 := up μ 78 4 0) R ?_ ?_ (FN.t4 _ 0) R4
  · unfold fX9_loops
    rw [x_loopCount hn R.2.1.1.1 R.1.1]
    rfl
  · unfold fX10_loops
    rw [qPf_eq, obs, m_loopsNow hn R4.2.2.1]
    rfl
theorem k_defects (hn : 5000 ≤ n) (R : RR μ e pp h E) : LK1 ((fX9_defects n μ).bind fun y1 => (fX10_defects n μ).bind fun y2 => cmpR y1 y2.1 y2.2) μ := by
  have R4 := CM4 R.2.2.1 0
  refine jn_0 (v := dfc e.2.2.1) (μ2 := up μ 78 4 0) R ?_ ?_ (FN.t4 _ 0) R4
  · unfold fX9_defects
    rw [x_defectCount hn R.2.1.1.1 R.1.1]
    rfl
  · unfold fX10_defects
    rw [qPf_eq, obs, m_defectsNow hn R4.2.2.1 R.1.1]
    rfl
theorem k_isSimple (hn : 5000 ≤ n) (R : RR μ e pp h E) : LK1 ((fX9_isSimple n μ).bind fun y1 => (fX10_isSimple n μ).bind fun y2 => cmpR y1 y2.1 y2.2) μ := by
  have R4 := CM4 R.2.2.1 0
  refine jn_0 (v := if wr (dfc e.2.2.1) = 0 then 1 else 0) (μ2 := up μ 78 4 0) R ?_ ?_ (FN.t4 _ 0) R4
  · unfold fX9_isSimple
    rw [x_defectCount hn R.2.1.1.1 R.1.1, obs]
    by_cases z : wr (dfc e.2.2.1) = 0
    · rw [if_pos z, if_pos z]
    · rw [if_neg z, if_neg z]
  · unfold fX10_isSimple
    rw [qPf_eq, obs, m_defectsNow hn R4.2.2.1 R.1.1, obs]
    by_cases z : wr (dfc e.2.2.1) = 0
    · rw [if_pos z, if_pos z]
    · rw [if_neg z, if_neg z]
theorem k_triangles (hn : 5000 ≤ n) (R : RR μ e pp h E) : LK1 ((fX9_triangles n μ).bind fun y1 => (fX10_triangles n μ).bind fun y2 => cmpR y1 y2.1 y2.2) μ := by
  have R4 := CM4 R.2.2.1 0
  refine jn_0 (v := trs e.2.2.1) (μ2 := up μ 78 4 0) R ?_ ?_ (FN.t4 _ 0) R4
  · unfold fX9_triangles
    rw [x_triangleCount hn R.2.1.1.1 R.1.1]
    rfl
  · unfold fX10_triangles
    rw [qPf_eq, obs, m_triangles hn R4.2.2.1 R.1.1]
    rfl
theorem k_components (hn : 5000 ≤ n) (R : RR μ e pp h E) : LK1 ((fX9_components n μ).bind fun y1 => (fX10_components n y1.2).bind fun y2 => cmpR y1.1 y2.1 y2.2) μ := by
  obtain ⟨μ1, b1, b2, -, b4, -, -⟩ := x_parts hn R.2.1.1.1 R.1.1 (by decide)
  have f1 : FC μ μ1 := b2.c (by decide)
  have R4 := CM4 (R.c f1).2.2.1 0
  obtain ⟨μ2, d1, d2, d3⟩ := m_parts hn R4 R.1.1
  refine jn_1 (v := nco e.1 e.2.2.1) R ?_ f1 ?_ ((FN.t4 _ 0).tr (d2.n (by decide))) (R4.kp (d2 79 (by decide)))
  · unfold fX9_components
    rw [b1, obs, b4]
    rfl
  · unfold fX10_components
    rw [qPf_eq, obs, d1]
    rfl
theorem k_isConnected (hn : 5000 ≤ n) (R : RR μ e pp h E) : LK1 ((fX9_isConnected n μ).bind fun y1 => (fX10_isConnected n y1.2).bind fun y2 => cmpR y1.1 y2.1 y2.2) μ := by
  obtain ⟨μ1, b1, b2⟩ := x_partsWithEdges hn R.2.1.1.1 R.1.1 (by decide)
  have f1 : FC μ μ1 := b2.c (by decide)
  have R4 := CM4 (R.c f1).2.2.1 0
  obtain ⟨μ2, d1, d2⟩ := m_partsWithEdges hn R4 R.1.1
  refine jn_1 (v := if 1 < wr (cwe e.1 e.2.2.1) then 0 else 1) R ?_ f1 ?_ ((FN.t4 _ 0).tr (d2.n (by decide))) (R4.kp (d2 79 (by decide)))
  · unfold fX9_isConnected
    rw [b1, obs]
    by_cases z : 1 < wr (cwe e.1 e.2.2.1)
    · rw [if_pos z, if_pos z]
    · rw [if_neg z, if_neg z]
  · unfold fX10_isConnected
    rw [qPf_eq, obs, d1, obs]
    by_cases z : 1 < wr (cwe e.1 e.2.2.1)
    · rw [if_pos z, if_pos z]
    · rw [if_neg z, if_neg z]
theorem k_bridges (hn : 5000 ≤ n) (R : RR μ e pp h E) : LK1 ((fX9_bridges n μ).bind fun y1 => (fX10_bridges n y1.2).bind fun y2 => cmpR y1.1 y2.1 y2.2) μ := by
  obtain ⟨μ1, b1, b2⟩ := x_bridges hn R.2.1.1 R.1.1
  have f1 : FC μ μ1 := b2.c (by decide)
  obtain ⟨μ2, d1, d2, d3⟩ := m_bridges hn (R.c f1).2.2.1 R.1.1 R.1.2.1
  exact jn_1 (v := brs e.1 e.2.2.1) R b1 f1 d1 ((FN.t4 _ 0).tr (d3.n (by decide))) d2
theorem k_switches (hn : 5000 ≤ n) (R : RR μ e pp h E) : LK1 ((fX9_switches n μ).bind fun y1 => (fX10_switches_ n y1.2).bind fun y2 => cmpR y1.1 y2.1 y2.2) μ := by
  have hm := R.1.mr
  have e0 : rd μ 0 11 = e.2.1 := R.2.1.2.2
  obtain ⟨μ1, b1, b2, b3, b4⟩ := x_fill (p := e.2.1) hn R.2.1.1.1 R.1.1 hm (by decide)
  have f1 : FC μ μ1 := b4.c (by decide)
  have R4 := CM4 (R.c f1).2.2.1 0
  obtain ⟨μ2, d1, d2, d3, d4⟩ := m_laysList (p := e.2.1) hn R4 R.1.1 R.1.2.1 hm
  refine jn_1 (v := lsz e.2.1 e.2.2.1) R ?_ f1 ?_ ((FN.t4 _ 0).tr (d4.n (by decide))) d2
  · unfold fX9_switches
    rw [e0, b1, obs]
    show (some (rd μ1 26 1)).bind _ = _
    rw [obs, b2]
  · unfold fX10_switches_
    rw [qPf_eq, obs, qLd_in (by omega), obs, R4.2.1, d1]
    rfl
theorem k_isAlike (hn : 5000 ≤ n) (R : RR μ e pp h E) : LK1 ((fX9_isAlike n μ).bind fun y1 => (fX10_isAlike n μ).bind fun y2 => cmpR y1 y2.1 y2.2) μ := by
  have R4 := CM4 R.2.2.1 0
  obtain ⟨b, b1, b2⟩ := x_hasDegreesOf hn R.2.1.1.1 R.1.1 R.2.1.2.1.1 R.1.2.1
  refine jn_0 (v := b) (μ2 := up μ 78 4 0) R ?_ ?_ (FN.t4 _ 0) R4
  · unfold fX9_isAlike
    rw [b1, obs]
    rcases b2 with ⟨rfl, -⟩ | ⟨rfl, -⟩ <;> rfl
  · unfold fX10_isAlike
    rcases b2 with ⟨rfl, b2⟩ | ⟨rfl, b2⟩
    · rw [qPf_eq, obs, m_alike hn R4 R.1 b2]
      rfl
    · rw [qPf_eq, obs, m_unlike hn R4 R.1 b2]
      rfl
theorem k_difference (hn : 5000 ≤ n) (R : RR μ e pp h E) : LK1 ((fX9_difference n μ).bind fun y1 => (fX10_difference n μ).bind fun y2 => cmpR y1 y2.1 y2.2) μ := by
  have R4 := CM4 R.2.2.1 0
  refine jn_0 (v := sps e.2.2.1 e.2.2.2) (μ2 := up μ 78 4 0) R ?_ ?_ (FN.t4 _ 0) R4
  · unfold fX9_difference
    rw [x_surplusOver hn R.2.1.1.1 R.1.1 R.2.1.2.1.1 R.1.2.1]
    rfl
  · unfold fX10_difference
    rw [qPf_eq, obs, m_differenceNow hn R4.2.2.1 R.1.1 R4.2.2.2 R.1.2.1]
    rfl
theorem k_meanDegree (hn : 5000 ≤ n) (R : RR μ e pp h E) (Ls : Nat) (i : Int) : LK1 (sL_1167 n Ls i μ) μ := by
  have hN := R.1.1.N
  have h0 := R.1.1.e0
  have h16 := R.1.1.2.2.2.2
  have R4 := CM4 R.2.2.1 0
  obtain ⟨z, z1, z2⟩ := md_ok (x := Ed e.2.2.1) (N := e.1) (by omega) hN
  have a1 : fX9_meanDegree μ = some z := by
    have e1 : fX1_vertexCount 11 μ = some e.1 := congrArg some R.2.1.1.1.1
    have e2 : fX1_edgeCount 11 μ = some (Ed e.2.2.1) := congrArg some R.2.1.1.2
    unfold fX9_meanDegree
    rw [e1, obs, wr_id (by omega) (by omega), if_pos (by omega), e2, obs, z1]
    rfl
  have a2 : fX10_meanDegree n μ = some (z, up μ 78 4 0) := by
    unfold fX10_meanDegree
    rw [qPf_eq, obs, m_edgesOf hn R4.2.2.1 (Or.inl rfl), obs, qLd_in (by omega), obs, R4.1, z1]
    rfl
  unfold sL_1167
  rw [a1, obs, a2, obs]
  refine ⟨0, up μ 78 4 0, ?_, ⟨e, pp, h, E, R.q (FN.t4 _ 0).q R4⟩, (FN.t4 _ 0).q.s⟩
  exact if_pos z2
end CA4
