/-! THE LAW'S CASES: each leaves both sides in step -/
section LCS
variable {μ : qMu} {n Ls : Nat} {i : Int}
theorem c_244 (hn : 5000 ≤ n) (hi : 0 ≤ i ∧ i + 6 ≤ (Ls : Int)) (H : RQ μ) : LK1 (sL_244 n Ls i μ) μ := by
  obtain ⟨e, p, h, E, R⟩ := H
  obtain ⟨v, μ1, μ2, h1, h2, h3, h4, h5⟩ := k_feed (q := rd μ 1001000 (i + 1)) (r := rd μ 1001000 (i + 2)) (s := rd μ 1001000 (i + 3)) (t := rd μ 1001000 (i + 4)) (u := rd μ 1001000 (i + 5)) hn R
  unfold sL_244
  rw [qLd_in (by omega), obs, qLd_in (by omega), obs, qLd_in (by omega), obs, qLd_in (by omega), obs, qLd_in (by omega), obs, h1, obs, qLd_in (by omega), obs, qLd_in (by omega), obs, qLd_in (by omega), obs, qLd_in (by omega), obs, qLd_in (by omega), obs, rd_cg h4, rd_cg h4, rd_cg h4, rd_cg h4, rd_cg h4, h2, obs]
  exact ⟨0, μ2, if_pos rfl, h3, h5⟩
theorem c_317 (hn : 5000 ≤ n) (hi : 0 ≤ i ∧ i + 6 ≤ (Ls : Int)) (H : RQ μ) : LK1 (sL_317 n Ls i μ) μ := by
  obtain ⟨e, p, h, E, R⟩ := H
  unfold sL_317
  exact jt_1 (F := fun x => x) (fx := fL_load n) (fm := fX10_load n) hi (fun q1 hq1 => j_load hn R hq1)
theorem c_373 (hn : 5000 ≤ n) (hi : 0 ≤ i ∧ i + 6 ≤ (Ls : Int)) (H : RQ μ) : LK1 (sL_373 n Ls i μ) μ := by
  obtain ⟨e, p, h, E, R⟩ := H
  unfold sL_373
  exact k_errorKind R
theorem c_386 (hn : 5000 ≤ n) (hi : 0 ≤ i ∧ i + 6 ≤ (Ls : Int)) (H : RQ μ) : LK1 (sL_386 n Ls i μ) μ := by
  obtain ⟨e, p, h, E, R⟩ := H
  unfold sL_386
  exact k_errorPosition R
theorem c_399 (hn : 5000 ≤ n) (hi : 0 ≤ i ∧ i + 6 ≤ (Ls : Int)) (H : RQ μ) : LK1 (sL_399 n Ls i μ) μ := by
  obtain ⟨e, p, h, E, R⟩ := H
  unfold sL_399
  exact k_vertices R
theorem c_412 (hn : 5000 ≤ n) (hi : 0 ≤ i ∧ i + 6 ≤ (Ls : Int)) (H : RQ μ) : LK1 (sL_412 n Ls i μ) μ := by
  obtain ⟨e, p, h, E, R⟩ := H
  unfold sL_412
  exact k_mode R
theorem c_425 (hn : 5000 ≤ n) (hi : 0 ≤ i ∧ i + 6 ≤ (Ls : Int)) (H : RQ μ) : LK1 (sL_425 n Ls i μ) μ := by
  obtain ⟨e, p, h, E, R⟩ := H
  have q1 := qLd_in (μ := μ) (a := 1001000) (n := Ls) (i := i + 1) (by omega)
  have k1 := k_edges (r := rd μ 1001000 (i + 1)) hn R
  unfold sL_425
  rw [q1, obs]
  obtain ⟨k, μ2, h1, h2, h3⟩ := k1
  refine ⟨k, μ2, ?_, h2, h3⟩
  rw [← h1]
  cases fX9_edges (if wr (rd μ 1001000 (i + 1)) = 0 then 0 else 1) μ with
  | none => rfl
  | some y =>
    rw [obs, obs, obs]
    rfl
theorem c_466 (hn : 5000 ≤ n) (hi : 0 ≤ i ∧ i + 6 ≤ (Ls : Int)) (H : RQ μ) : LK1 (sL_466 n Ls i μ) μ := by
  obtain ⟨e, p, h, E, R⟩ := H
  unfold sL_466
  exact jt_3 (F := fun x => x) (fx := fun q1 q2 q3 => fL_times q1 q2 (if wr q3 = 0 then 0 else 1)) (fm := fun q1 q2 q3 => fX10_times q1 q2 (if wr q3 = 0 then 0 else 1)) hi (fun q1 q2 q3 h1 h2 _ => j_times R h1 h2)
theorem c_562 (hn : 5000 ≤ n) (hi : 0 ≤ i ∧ i + 6 ≤ (Ls : Int)) (H : RQ μ) : LK1 (sL_562 n Ls i μ) μ := by
  obtain ⟨e, p, h, E, R⟩ := H
  unfold sL_562
  exact jt_2 (F := fun x => x) (fx := fun q1 q2 => fL_degree n q1 (if wr q2 = 0 then 0 else 1)) (fm := fun q1 q2 => fX10_degree n q1 (if wr q2 = 0 then 0 else 1)) hi (fun q1 q2 h1 _ => j_degree hn R h1)
theorem c_646 (hn : 5000 ≤ n) (hi : 0 ≤ i ∧ i + 6 ≤ (Ls : Int)) (H : RQ μ) : LK1 (sL_646 n Ls i μ) μ := by
  obtain ⟨e, p, h, E, R⟩ := H
  unfold sL_646
  exact k_loops hn R
theorem c_659 (hn : 5000 ≤ n) (hi : 0 ≤ i ∧ i + 6 ≤ (Ls : Int)) (H : RQ μ) : LK1 (sL_659 n Ls i μ) μ := by
  obtain ⟨e, p, h, E, R⟩ := H
  unfold sL_659
  exact k_defects hn R
theorem c_672 (hn : 5000 ≤ n) (hi : 0 ≤ i ∧ i + 6 ≤ (Ls : Int)) (H : RQ μ) : LK1 (sL_672 n Ls i μ) μ := by
  obtain ⟨e, p, h, E, R⟩ := H
  unfold sL_672
  exact k_isSimple hn R
theorem c_685 (hn : 5000 ≤ n) (hi : 0 ≤ i ∧ i + 6 ≤ (Ls : Int)) (H : RQ μ) : LK1 (sL_685 n Ls i μ) μ := by
  obtain ⟨e, p, h, E, R⟩ := H
  unfold sL_685
  exact jt_1 (F := fun x => x) (fx := fL_neighbours n) (fm := fX10_neighbours n) hi (fun q1 hq1 => j_neighbours hn R hq1)
theorem c_741 (hn : 5000 ≤ n) (hi : 0 ≤ i ∧ i + 6 ≤ (Ls : Int)) (H : RQ μ) : LK1 (sL_741 n Ls i μ) μ := by
  obtain ⟨e, p, h, E, R⟩ := H
  unfold sL_741
  exact k_triangles hn R
theorem c_754 (hn : 5000 ≤ n) (hi : 0 ≤ i ∧ i + 6 ≤ (Ls : Int)) (H : RQ μ) : LK1 (sL_754 n Ls i μ) μ := by
  obtain ⟨e, p, h, E, R⟩ := H
  unfold sL_754
  exact k_components hn R
theorem c_767 (hn : 5000 ≤ n) (hi : 0 ≤ i ∧ i + 6 ≤ (Ls : Int)) (H : RQ μ) : LK1 (sL_767 n Ls i μ) μ := by
  obtain ⟨e, p, h, E, R⟩ := H
  unfold sL_767
  exact jt_1 (F := fun x => x) (fx := fL_component n) (fm := fX10_component n) hi (fun q1 hq1 => j_component hn R hq1)
theorem c_823 (hn : 5000 ≤ n) (hi : 0 ≤ i ∧ i + 6 ≤ (Ls : Int)) (H : RQ μ) : LK1 (sL_823 n Ls i μ) μ := by
  obtain ⟨e, p, h, E, R⟩ := H
  unfold sL_823
  exact k_isConnected hn R
theorem c_836 (hn : 5000 ≤ n) (hi : 0 ≤ i ∧ i + 6 ≤ (Ls : Int)) (H : RQ μ) : LK1 (sL_836 n Ls i μ) μ := by
  obtain ⟨e, p, h, E, R⟩ := H
  unfold sL_836
  exact jt_2 (F := fun x => if wr x = 0 then 0 else 1) (fx := fL_isBridge n) (fm := fX10_isBridge n) hi (fun q1 q2 hq1 hq2 => j_isBridge hn R hq1 hq2)
theorem c_911 (hn : 5000 ≤ n) (hi : 0 ≤ i ∧ i + 6 ≤ (Ls : Int)) (H : RQ μ) : LK1 (sL_911 n Ls i μ) μ := by
  obtain ⟨e, p, h, E, R⟩ := H
  unfold sL_911
  exact k_bridges hn R
theorem c_924 (hn : 5000 ≤ n) (hi : 0 ≤ i ∧ i + 6 ≤ (Ls : Int)) (H : RQ μ) : LK1 (sL_924 n Ls i μ) μ := by
  obtain ⟨e, p, h, E, R⟩ := H
  unfold sL_924
  exact jt_2 (F := fun x => x) (fx := fL_way n) (fm := fX10_way n) hi (fun q1 q2 hq1 hq2 => j_way hn R hq1 hq2)
theorem c_992 (hn : 5000 ≤ n) (hi : 0 ≤ i ∧ i + 6 ≤ (Ls : Int)) (H : RQ μ) : LK1 (sL_992 n Ls i μ) μ := by
  obtain ⟨e, p, h, E, R⟩ := H
  unfold sL_992
  exact jt_1 (F := fun x => x) (fx := fL_sorted n) (fm := fX10_sorted n) hi (fun q1 hq1 => j_sorted hn R hq1)
theorem c_1048 (hn : 5000 ≤ n) (hi : 0 ≤ i ∧ i + 6 ≤ (Ls : Int)) (H : RQ μ) : LK1 (sL_1048 n Ls i μ) μ := by
  obtain ⟨e, p, h, E, R⟩ := H
  unfold sL_1048
  exact jt_1 (F := fun x => x) (fx := fL_slack n) (fm := fX10_slack n) hi (fun q1 hq1 => j_slack hn R hq1)
theorem c_1104 (hn : 5000 ≤ n) (hi : 0 ≤ i ∧ i + 6 ≤ (Ls : Int)) (H : RQ μ) : LK1 (sL_1104 n Ls i μ) μ := by
  obtain ⟨e, p, h, E, R⟩ := H
  unfold sL_1104
  exact jt_1 (F := fun x => if wr x = 0 then 0 else 1) (fx := fL_isPossible n) (fm := fX10_isPossible n) hi (fun q1 hq1 => j_isPossible hn R hq1)
theorem c_1167 (hn : 5000 ≤ n) (hi : 0 ≤ i ∧ i + 6 ≤ (Ls : Int)) (H : RQ μ) : LK1 (sL_1167 n Ls i μ) μ := by
  obtain ⟨e, p, h, E, R⟩ := H
  exact k_meanDegree hn R Ls i
theorem c_1208 (hn : 5000 ≤ n) (hi : 0 ≤ i ∧ i + 6 ≤ (Ls : Int)) (H : RQ μ) : LK1 (sL_1208 n Ls i μ) μ := by
  obtain ⟨e, p, h, E, R⟩ := H
  unfold sL_1208
  exact jt_4 (F := fun x => x) (fx := fL_reason) (fm := fX10_reason) hi (fun q1 q2 q3 q4 h1 h2 h3 h4 => j_reason R h1 h2 h3 h4)
theorem c_1300 (hn : 5000 ≤ n) (hi : 0 ≤ i ∧ i + 6 ≤ (Ls : Int)) (H : RQ μ) : LK1 (sL_1300 n Ls i μ) μ := by
  obtain ⟨e, p, h, E, R⟩ := H
  unfold sL_1300
  exact k_switches hn R
theorem c_1313 (hn : 5000 ≤ n) (hi : 0 ≤ i ∧ i + 6 ≤ (Ls : Int)) (H : RQ μ) : LK1 (sL_1313 n Ls i μ) μ := by
  obtain ⟨e, p, h, E, R⟩ := H
  unfold sL_1313
  exact jt_2 (F := fun x => x) (fx := fL_switchAt n) (fm := fX10_switchAt n) hi (fun q1 q2 hq1 hq2 => j_switchAt hn R hq1 hq2)
theorem c_1381 (hn : 5000 ≤ n) (hi : 0 ≤ i ∧ i + 6 ≤ (Ls : Int)) (H : RQ μ) : LK1 (sL_1381 n Ls i μ) μ := by
  obtain ⟨e, p, h, E, R⟩ := H
  unfold sL_1381
  exact jt_4 (F := fun x => x) (fx := fL_componentsBehind n) (fm := fX10_componentsBehind n) hi (fun q1 q2 q3 q4 hq1 hq2 hq3 hq4 => j_componentsBehind hn R hq1 hq2 hq3 hq4)
theorem c_1473 (hn : 5000 ≤ n) (hi : 0 ≤ i ∧ i + 6 ≤ (Ls : Int)) (H : RQ μ) : LK1 (sL_1473 n Ls i μ) μ := by
  obtain ⟨e, p, h, E, R⟩ := H
  unfold sL_1473
  exact jt_0 (F := fun x => x) (j_nearest hn R)
theorem c_1517 (hn : 5000 ≤ n) (hi : 0 ≤ i ∧ i + 6 ≤ (Ls : Int)) (H : RQ μ) : LK1 (sL_1517 n Ls i μ) μ := by
  obtain ⟨e, p, h, E, R⟩ := H
  unfold sL_1517
  exact k_isAlike hn R
theorem c_1530 (hn : 5000 ≤ n) (hi : 0 ≤ i ∧ i + 6 ≤ (Ls : Int)) (H : RQ μ) : LK1 (sL_1530 n Ls i μ) μ := by
  obtain ⟨e, p, h, E, R⟩ := H
  unfold sL_1530
  exact k_difference hn R
theorem c_1543 (hn : 5000 ≤ n) (hi : 0 ≤ i ∧ i + 6 ≤ (Ls : Int)) (H : RQ μ) : LK1 (sL_1543 n Ls i μ) μ := by
  obtain ⟨e, p, h, E, R⟩ := H
  unfold sL_1543
  exact jt_0 (F := fun x => x) (j_pathLength hn R)
theorem c_1587 (hn : 5000 ≤ n) (hi : 0 ≤ i ∧ i + 6 ≤ (Ls : Int)) (H : RQ μ) : LK1 (sL_1587 n Ls i μ) μ := by
  obtain ⟨e, p, h, E, R⟩ := H
  unfold sL_1587
  exact jt_2 (F := fun x => x) (fx := fL_path n) (fm := fX10_path n) hi (fun q1 q2 hq1 hq2 => j_path hn R hq1 hq2)
theorem c_1655 (hn : 5000 ≤ n) (hi : 0 ≤ i ∧ i + 6 ≤ (Ls : Int)) (H : RQ μ) : LK1 (sL_1655 n Ls i μ) μ := by
  obtain ⟨e, p, h, E, R⟩ := H
  unfold sL_1655
  exact jt_0 (F := fun x => x) (j_distance hn R)
theorem c_1699 (hn : 5000 ≤ n) (hi : 0 ≤ i ∧ i + 6 ≤ (Ls : Int)) (H : RQ μ) : LK1 (sL_1699 n Ls i μ) μ := by
  obtain ⟨e, p, h, E, R⟩ := H
  unfold sL_1699
  exact jt_2 (F := fun x => x) (fx := fL_addEdge n) (fm := fX10_addEdge n) hi (fun q1 q2 hq1 hq2 => j_addEdge hn R hq1 hq2)
theorem c_1767 (hn : 5000 ≤ n) (hi : 0 ≤ i ∧ i + 6 ≤ (Ls : Int)) (H : RQ μ) : LK1 (sL_1767 n Ls i μ) μ := by
  obtain ⟨e, p, h, E, R⟩ := H
  unfold sL_1767
  exact jt_2 (F := fun x => x) (fx := fL_removeEdge n) (fm := fX10_removeEdge n) hi (fun q1 q2 hq1 hq2 => j_removeEdge hn R hq1 hq2)
theorem c_1835 (hn : 5000 ≤ n) (hi : 0 ≤ i ∧ i + 6 ≤ (Ls : Int)) (H : RQ μ) : LK1 (sL_1835 n Ls i μ) μ := by
  obtain ⟨e, p, h, E, R⟩ := H
  unfold sL_1835
  exact jt_4 (F := fun x => x) (fx := fL_switchEdges n) (fm := fX10_switchEdges n) hi (fun q1 q2 q3 q4 hq1 hq2 hq3 hq4 => j_switchEdges hn R hq1 hq2 hq3 hq4)
theorem c_1927 (hn : 5000 ≤ n) (hi : 0 ≤ i ∧ i + 6 ≤ (Ls : Int)) (H : RQ μ) : LK1 (sL_1927 n Ls i μ) μ := by
  obtain ⟨e, p, h, E, R⟩ := H
  unfold sL_1927
  exact jt_1 (F := fun x => x) (fx := fL_realise n) (fm := fX10_realise n) hi (fun q1 hq1 => j_realise hn R hq1)
theorem c_1983 (hn : 5000 ≤ n) (hi : 0 ≤ i ∧ i + 6 ≤ (Ls : Int)) (H : RQ μ) : LK1 (sL_1983 n Ls i μ) μ := by
  obtain ⟨e, p, h, E, R⟩ := H
  unfold sL_1983
  exact jt_1 (F := fun x => x) (fx := fL_follow n) (fm := fX10_follow n) hi (fun q1 hq1 => j_follow hn R hq1)
theorem c_2039 (hn : 5000 ≤ n) (hi : 0 ≤ i ∧ i + 6 ≤ (Ls : Int)) (H : RQ μ) : LK1 (sL_2039 n Ls i μ) μ := by
  obtain ⟨e, p, h, E, R⟩ := H
  unfold sL_2039
  exact k_connect hn R
theorem c_2052 (hn : 5000 ≤ n) (hi : 0 ≤ i ∧ i + 6 ≤ (Ls : Int)) (H : RQ μ) : LK1 (sL_2052 n Ls i μ) μ := by
  obtain ⟨e, p, h, E, R⟩ := H
  unfold sL_2052
  exact k_simplify hn R
theorem c_2065 (hn : 5000 ≤ n) (hi : 0 ≤ i ∧ i + 6 ≤ (Ls : Int)) (H : RQ μ) : LK1 (sL_2065 n Ls i μ) μ := by
  obtain ⟨e, p, h, E, R⟩ := H
  unfold sL_2065
  exact k_exchange hn R
theorem c_2078 (hn : 5000 ≤ n) (hi : 0 ≤ i ∧ i + 6 ≤ (Ls : Int)) (H : RQ μ) : LK1 (sL_2078 n Ls i μ) μ := by
  obtain ⟨e, p, h, E, R⟩ := H
  unfold sL_2078
  exact k_copyToTarget hn R
theorem c_2091 (hn : 5000 ≤ n) (hi : 0 ≤ i ∧ i + 6 ≤ (Ls : Int)) (H : RQ μ) : LK1 (sL_2091 n Ls i μ) μ := by
  obtain ⟨e, p, h, E, R⟩ := H
  unfold sL_2091
  exact jt_1 (F := fun x => x) (fx := fL_setMode n) (fm := fX10_setMode n) hi (fun q1 hq1 => j_setMode hn R hq1)
theorem c_2147 (hn : 5000 ≤ n) (hi : 0 ≤ i ∧ i + 6 ≤ (Ls : Int)) (H : RQ μ) : LK1 (sL_2147 n Ls i μ) μ := by
  obtain ⟨e, p, h, E, R⟩ := H
  unfold sL_2147
  exact k_undo hn R
theorem c_2160 (hn : 5000 ≤ n) (hi : 0 ≤ i ∧ i + 6 ≤ (Ls : Int)) (H : RQ μ) : LK1 (sL_2160 n Ls i μ) μ := by
  obtain ⟨e, p, h, E, R⟩ := H
  obtain ⟨v, μ1, μ2, h1, h2, h3, h4, h5⟩ := k_write (r := rd μ 1001000 (i + 1)) hn R
  unfold sL_2160
  rw [qLd_in (by omega), obs, h1, obs, qLd_in (by omega), obs, rd_cg h4, h2, obs]
  exact ⟨0, μ2, if_pos rfl, h3, h5⟩
theorem c_2201 (hn : 5000 ≤ n) (hi : 0 ≤ i ∧ i + 6 ≤ (Ls : Int)) (H : RQ μ) : LK1 (sL_2201 n Ls i μ) μ := by
  obtain ⟨e, p, h, E, R⟩ := H
  unfold sL_2201
  exact jt_1 (F := fun x => x) (fx := fL_written) (fm := fX10_written) hi (fun q1 hq1 => j_written R hq1)
end LCS
