/-! THE LAW'S GRAPH: all its counts are the class's -/
theorem lpc_r {N : Int} {c : Int → Int → Int} (hV : Vd N c) : 0 ≤ lpc c ∧ lpc c ≤ 128 := by
  have h1 : 0 ≤ lpc c := rs_nn (fun k _ _ => hV.2.1 k k)
  have h2 : lpc c ≤ rs (fun _ => (16 : Int)) 0 8 := rs_le (fun k _ _ => (hV.r k k).2)
  rw [rs_16] at h2
  omega
section GRP
variable {μ : qMu} {n : Nat} {e : qEn}
theorem x_isGraph (hn : 5000 ≤ n) (h : QS μ e) (hj : qJn μ < 700) (hs : qJs μ < 70000) : ∃ μ', fL_isGraph n μ = some (.inl 1, μ') ∧ QS μ' e ∧ (∀ a, a < 87 → a ∉ [19, 20] → μ' a = μ a) ∧ (qJn μ' ≤ qJn μ + 1 ∧ qJs μ' ≤ qJs μ + 6) := by
  have hN := h.2.2.1
  have hV := h.2.1.1
  have h16 := hV.2.2.2.2
  have h00 := hV.e0
  obtain ⟨μ1, a1, a2, a3, a4⟩ := nw_num (μ := μ) (l := 6) (by omega) (by omega) (by omega)
  have a4c := a4.1
  have o1 : ∀ x, x < 87 → μ1 x = μ x := fun x hx => a4.2 x (by omega) (by omega)
  have Q1 : QS μ1 e := h.kp (fun x hx _ => o1 x hx)
  obtain ⟨μ2, b1, b2, b3, b4, b5⟩ := x_init (n := n) (x1 := lpc e.2.2.1) (x2 := dfc e.2.2.1 - lpc e.2.2.1) (x3 := trs e.2.2.1) hn Q1 a2
  obtain ⟨μ3, c1, c2, c3⟩ := x_rnds (n := n) (x1 := lpc e.2.2.1) (x2 := dfc e.2.2.1 - lpc e.2.2.1) (x3 := trs e.2.2.1) hn b2 b3 b4
  have Q3 := c2.1
  have d1 := x_cnt (n := n) (x1 := lpc e.2.2.1) (x2 := dfc e.2.2.1 - lpc e.2.2.1) (x3 := trs e.2.2.1) hn Q3 c2.2.1 c3
  have hnum := a2.1
  have o3 : ∀ x, x ≠ 87 + qJn μ → μ3 x = μ1 x := fun x hx => (c2.2.2.2.2 x hx).trans (b5 x hx)
  obtain ⟨μ4, e1, e2⟩ := y_components hn Q3.1 Q3.2.1
  have e2' : Fr [19, 20] μ3 μ4 := by
    obtain ⟨μx, x1, x2, x3⟩ := x_parts (n := n) (g := 11) hn Q3.1.1.1 Q3.2.1.1 (by decide)
    have : fX9_components n μ3 = some (nco e.1 e.2.2.1, μx) := by
      unfold fX9_components
      rw [x1, obs, x3, obs]
    rw [this] at e1
    cases e1
    exact x2
  have Q4 : QS μ4 e := Q3.fc e2
  obtain ⟨z, y, y2, m1, m2, m3, m4⟩ := md_ok (x := Ed e.2.2.1) (N := e.1) (by omega) (by omega)
  have md : fX9_meanDegree μ4 = some z := by
    have e1 : fX1_vertexCount 11 μ4 = some e.1 := congrArg some Q4.1.1.1.1
    have e2 : fX1_edgeCount 11 μ4 = some (Ed e.2.2.1) := congrArg some Q4.1.1.2
    unfold fX9_meanDegree
    rw [e1, obs, wr_id (by omega) (by omega), if_pos (by omega), e2, obs, m1, obs, obs]
  have n4 : qJn μ4 = qJn μ1 := (qJn_cg (e2' _ (by decide))).trans (qJn_cg (o3 _ (by omega)))
  have n4s : qJs μ4 = qJs μ1 := (qJs_cg (e2' _ (by decide))).trans (qJs_cg (o3 _ (by omega)))
  refine ⟨μ4, ?_, Q4, fun a q1 q2 => ?_, by omega, by omega⟩
  · have ed : lpc e.2.2.1 + (dfc e.2.2.1 - lpc e.2.2.1) = dfc e.2.2.1 := by omega
    have es : wr (if wr (dfc e.2.2.1) = 0 then (1 : Int) else 0) = wr (if wr (lpc e.2.2.1 + (dfc e.2.2.1 - lpc e.2.2.1)) = 0 then 1 else 0) := by rw [ed]
    have a1' : qNw μ 0 6 = some (87 + qJn μ, μ1) := a1
    unfold fL_isGraph
    rw [x_gr10 hn h, obs, Sum.elim_inl, a1', obs]
    show (lp (fun x : Int × qMu => bL_isGraph_216 n (lpc e.2.2.1) (dfc e.2.2.1 - lpc e.2.2.1) (trs e.2.2.1) (87 + qJn μ) x.1 x.2) n (0, μ1)).bind _ = _
    rw [b1, obs]
    show (lp (fun x : Int × qMu => bL_isGraph_241 n (lpc e.2.2.1) (dfc e.2.2.1 - lpc e.2.2.1) (trs e.2.2.1) (87 + qJn μ) x.1 x.2) n (0, μ2)).bind _ = _
    rw [c1, obs]
    show (lp (fun x : Int × Int => bL_isGraph_327 n (lpc e.2.2.1) (dfc e.2.2.1 - lpc e.2.2.1) (trs e.2.2.1) (87 + qJn μ) x.1 x.2 μ3) n (0, 0)).bind _ = _
    rw [d1, obs, y_loops hn Q3.1 Q3.2.1, obs, if_pos rfl, y_defects hn Q3.1 Q3.2.1, obs]
    show (if wr (dfc e.2.2.1) = wr (lpc e.2.2.1 + (dfc e.2.2.1 - lpc e.2.2.1)) then _ else _) = _
    rw [if_pos (by rw [ed]), y_simple hn Q3.1 Q3.2.1, obs]
    show (if wr (if wr (dfc e.2.2.1) = 0 then (1 : Int) else 0) = wr (if wr (lpc e.2.2.1 + (dfc e.2.2.1 - lpc e.2.2.1)) = 0 then 1 else 0) then _ else _) = _
    rw [if_pos es, y_triangles hn Q3.1 Q3.2.1, obs]
    show (if wr (trs e.2.2.1) = wr (trs e.2.2.1) then _ else _) = _
    rw [if_pos rfl, e1, obs]
    show (if wr (nco e.1 e.2.2.1) = wr (nco e.1 e.2.2.1) then _ else _) = _
    rw [if_pos rfl]
    show (fX9_meanDegree μ4).bind _ = _
    rw [md, obs, x_edgL hn Q4, obs, m2, obs, Q4.2.2.2.1, m3, obs, if_pos m4]
  · rw [e2' a q2, o3 a (by omega), o1 a q1]
end GRP
