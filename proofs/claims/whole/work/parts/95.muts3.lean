def JN (fx fm : qMu → Option (Int × qMu)) (μ : qMu) : Prop := ∃ v μ1 μ2, fx μ = some (v, μ1) ∧ fm μ1 = some (v, μ2) ∧ RQ μ2 ∧ μ1 1001000 = μ 1001000 ∧ μ2 1001000 = μ 1001000
section MU3
variable {μ μ1 μ2 : qMu} {n : Nat} {e e' : qEn} {p h p' h' : Nat} {E E' : Nat → qEn}
theorem k_connect (hn : 5000 ≤ n) (R : RR μ e p h E) : LK1 ((fX9_connect n μ).bind fun y1 => (fX10_connect n y1.2).bind fun y2 => cmpR y1.1 y2.1 y2.2) μ := by
  have hm := R.1.mr
  obtain ⟨μr, r1, r2, r3, r4, r5⟩ := x_rem hn R (FC.rf μ)
  obtain ⟨μ5, μ1, b1, b2, b3, b4⟩ := x_connects hn r3.1 R.1.1 r3.2.2 hm
  obtain ⟨hV', -, -⟩ := itG_ok (cn_Ch (p := e.2.1) R.1.1.N) 8 e.2.2.1 R.1.1
  have X1 : CX μ1 (gph e (itG (cnC e.1 e.2.1) 8 e.2.2.1)) := ⟨b3, r3.2.1.kp (b4 13 (by decide)) (b4 14 (by decide)), (rd_cg (b4 0 (by decide)) 11).trans r3.2.2⟩
  have H1 : HX μ1 ((p + 1) % 10) (min (h + 1) 10) (push E h e) := r2.kp (b4 32 (by decide)) (fun a i1 i2 => b4 a (by simp; omega))
  have fX : XK μ μ1 := r4.tr (b4.xk (by decide))
  obtain ⟨M1, M2⟩ := fX.m R
  obtain ⟨μ7, i1, i2, i3, i4, i5⟩ := m_rem hn (CM4 M1 0) (M2.at4 0)
  obtain ⟨μ8, μ9, μ2, j1, j2, j3, j4, j5⟩ := m_connects hn i3 R.1.1 R.1.2.1 hm
  refine LK1.mut (e' := gph e (itG (cnC e.1 e.2.1) 8 e.2.2.1)) (v := cwe e.1 (itG (cnC e.1 e.2.1) 8 e.2.2.1)) R ⟨hV', R.1.2.1, R.1.2.2⟩ ?_ X1 H1 fX ?_ j4 (i2.mj (rd_cg (j5 78 (by decide)) 3) (j5 81 (by decide))) (((t4_mj 0).tr i4).tr (j5.mj (by decide))) R.pe
  · unfold fX9_connect
    rw [r1, obs, b1, obs, b2]
    rfl
  · unfold fX10_connect
    rw [qPf_eq, obs, i1, obs, j1, obs, j2, obs, j3]
    rfl
theorem k_simplify (hn : 5000 ≤ n) (R : RR μ e p h E) : LK1 ((fX9_simplify n μ).bind fun y1 => (fX10_simplify n y1.2).bind fun y2 => cmpR y1.1 y2.1 y2.2) μ := by
  obtain ⟨μr, r1, r2, r3, r4, r5⟩ := x_rem hn R (FC.rf μ)
  obtain ⟨μ1, b1, b2, b3, b4⟩ := x_simplifies hn r3.1 R.1.1
  obtain ⟨hV', -, -⟩ := itG_ok (N := e.1) sm_Ch 16 e.2.2.1 R.1.1
  have X1 : CX μ1 (gph e (itG smC 16 e.2.2.1)) := ⟨b3, r3.2.1.kp (b4 13 (by decide)) (b4 14 (by decide)), (rd_cg (b4 0 (by decide)) 11).trans r3.2.2⟩
  have H1 : HX μ1 ((p + 1) % 10) (min (h + 1) 10) (push E h e) := r2.kp (b4 32 (by decide)) (fun a i1 i2 => b4 a (by simp; omega))
  have fX : XK μ μ1 := r4.tr (b4.xk (by decide))
  obtain ⟨M1, M2⟩ := fX.m R
  obtain ⟨μ7, i1, i2, i3, i4, i5⟩ := m_rem hn (CM4 M1 0) (M2.at4 0)
  obtain ⟨μ8, μ2, j1, j2, j3, j4, j5⟩ := m_simplifies hn i3 R.1.1 R.1.2.1
  refine LK1.mut (e' := gph e (itG smC 16 e.2.2.1)) (v := dfc (itG smC 16 e.2.2.1)) R ⟨hV', R.1.2.1, R.1.2.2⟩ ?_ X1 H1 fX ?_ j4 (i2.mj (rd_cg (j5 78 (by decide)) 3) (j5 81 (by decide))) (((t4_mj 0).tr i4).tr (j5.mj (by decide))) R.pe
  · unfold fX9_simplify
    rw [r1, obs, b1, obs, b2]
    rfl
  · unfold fX10_simplify
    rw [qPf_eq, obs, i1, obs, j1, obs, j2, obs, j3]
    rfl
theorem k_exchange (hn : 5000 ≤ n) (R : RR μ e p h E) : LK1 ((fX9_exchange n μ).bind fun y1 => (fX10_exchange n y1.2).bind fun y2 => cmpR y1.1 y2.1 y2.2) μ := by
  have hN := R.1.1.N
  obtain ⟨hb1, hb2, hb3⟩ := R.1.bd
  obtain ⟨μr, r1, r2, r3, r4, r5⟩ := x_rem hn R (FC.rf μ)
  obtain ⟨μ3, b1, b2, b3⟩ := x_become (g := 17) hn r3.1 R.1.1.bd (by decide) (by decide) (by decide) hb1 hb3
  obtain ⟨μ4, d1, d2, d3⟩ := x_become (g := 11) hn (r3.2.1.kp (b3 13 (by decide)) (b3 14 (by decide))) R.1.2.1.bd (by decide) (by decide) (by decide) hb2 hb3
  obtain ⟨μ1, g1, g2, g3⟩ := x_become (g := 13) hn (b2.kp (d3 17 (by decide)) (d3 18 (by decide))) R.1.1.bd (by decide) (by decide) (by decide) hb1 hb3
  have fr : Fr [11, 12, 13, 14, 17, 18] μr μ1 := ((b3.wk (by simp)).tr (d3.wk (by simp))).tr (g3.wk (by simp))
  have d2' : GY μ1 11 e.1 e.2.2.2 := d2.kp (g3 11 (by decide)) (g3 12 (by decide))
  have a4 := x_surplusOver hn d2'.1 R.1.2.1 g2.1 R.1.1
  have X1 : CX μ1 (e.1, e.2.1, e.2.2.2, e.2.2.1) := ⟨d2', g2, (rd_cg (fr 0 (by decide)) 11).trans r3.2.2⟩
  have H1 : HX μ1 ((p + 1) % 10) (min (h + 1) 10) (push E h e) := r2.kp (fr 32 (by decide)) (fun a i1 i2 => fr a (by simp; omega))
  have fX : XK μ μ1 := r4.tr (fr.xk (by decide))
  obtain ⟨M1, M2⟩ := fX.m R
  obtain ⟨μ7, i1, i2, i3, i4, i5⟩ := m_rem hn (CM4 M1 0) (M2.at4 0)
  obtain ⟨μ2, j1, j4, j5⟩ := m_exch hn i3
  have j3 := m_differenceNow hn j4.2.2.1 R.1.2.1 j4.2.2.2 R.1.1
  refine LK1.mut (e' := (e.1, e.2.1, e.2.2.2, e.2.2.1)) (v := sps e.2.2.2 e.2.2.1) R ⟨R.1.2.1, R.1.1, R.1.2.2⟩ ?_ X1 H1 fX ?_ j4 (i2.mj (rd_cg (j5 78 (by decide)) 3) (j5 81 (by decide))) (((t4_mj 0).tr i4).tr (j5.mj (by decide))) R.pe
  · unfold fX9_exchange
    rw [r1, obs, b1, obs, d1, obs, g1, obs, a4]
    rfl
  · unfold fX10_exchange
    rw [qPf_eq, obs, i1, obs, j1, obs, j3]
    rfl
theorem k_copyToTarget (hn : 5000 ≤ n) (R : RR μ e p h E) : LK1 ((fX9_copyToTarget n μ).bind fun y1 => (fX10_copyToTarget n y1.2).bind fun y2 => cmpR y1.1 y2.1 y2.2) μ := by
  have hN := R.1.1.N
  obtain ⟨hb1, hb2, hb3⟩ := R.1.bd
  have a4 := x_surplusOver hn R.2.1.1.1 R.1.1 R.2.1.2.1.1 R.1.2.1
  obtain ⟨μr, r1, r2, r3, r4, r5⟩ := x_rem hn R (FC.rf μ)
  obtain ⟨μ1, b1, b2, fr⟩ := x_become (g := 13) hn r3.1 R.1.1.bd (by decide) (by decide) (by decide) hb1 hb3
  have X1 : CX μ1 (e.1, e.2.1, e.2.2.1, e.2.2.1) := ⟨r3.1.kp (fr 11 (by decide)) (fr 12 (by decide)), b2, (rd_cg (fr 0 (by decide)) 11).trans r3.2.2⟩
  have H1 : HX μ1 ((p + 1) % 10) (min (h + 1) 10) (push E h e) := r2.kp (fr 32 (by decide)) (fun a i1 i2 => fr a (by simp; omega))
  have fX : XK μ μ1 := r4.tr (fr.xk (by decide))
  obtain ⟨M1, M2⟩ := fX.m R
  obtain ⟨μ7, i1, i2, i3, i4, i5⟩ := m_rem hn (CM4 M1 0) (M2.at4 0)
  have j3 := m_differenceNow hn i3.2.2.1 R.1.1 i3.2.2.2 R.1.2.1
  obtain ⟨μ2, j1, j4, j5⟩ := m_copy (w := sps e.2.2.1 e.2.2.2) hn i3
  refine LK1.mut (e' := (e.1, e.2.1, e.2.2.1, e.2.2.1)) (v := sps e.2.2.1 e.2.2.2) R ⟨R.1.1, R.1.1, R.1.2.2⟩ ?_ X1 H1 fX ?_ j4 (i2.mj (rd_cg (j5 78 (by decide)) 3) (j5 81 (by decide))) (((t4_mj 0).tr i4).tr (j5.mj (by decide))) R.pe
  · unfold fX9_copyToTarget
    rw [a4, obs, r1, obs, b1]
    rfl
  · unfold fX10_copyToTarget
    rw [qPf_eq, obs, i1, obs, j3, obs, j1]
    rfl
theorem k_undo (hn : 5000 ≤ n) (R : RR μ e p h E) : LK1 ((fX9_undo n μ).bind fun y1 => (fX10_undo n y1.2).bind fun y2 => cmpR y1.1 y2.1 y2.2) μ := by
  rcases x_undo hn R.2.2.2.1 R.2.2.2.2.2.1 with ⟨h0, a1⟩ | ⟨h0, μ1, a1, a2, a3, a4, a5⟩
  · rcases m_undo hn R.2.2.2.2.1 with ⟨-, m1⟩ | ⟨h1, -⟩
    · exact jn_1 (v := -1) R a1 (FC.rf μ) m1 (FN.t4 _ 0) (CM4 R.2.2.1 0)
    · omega
  · have fX : XK μ μ1 := a4.xk (by decide)
    obtain ⟨M1, M2⟩ := fX.m R
    rcases m_undo hn M2 with ⟨h1, -⟩ | ⟨-, μ2, m1, m2, m3, m4, m5, m6⟩
    · omega
    · refine LK1.mut (e' := E (h - 1)) (v := ((h - 1 : Nat) : Int)) R (R.2.2.2.2.2.1 (h - 1) (by omega)) a1 a2 a3 fX m1 m2 m3 ⟨fun a ha => m4 a ?_, fun i i1 i2 => m6 i i1 i2⟩ (fun j hj => R.2.2.2.2.2.1 j (by omega))
      simp only [List.mem_cons, List.not_mem_nil, or_false]
      omega
theorem k_write {r : Int} (hn : 5000 ≤ n) (R : RR μ e p h E) : JN (fX9_write n (if wr r = 0 then 0 else 1)) (fX10_write n (if wr r = 0 then 0 else 1)) μ := by
  obtain ⟨c, μ1, hV, b1, b2, b3, b4, b5, μ2, d1, d2, d3, d4⟩ : ∃ c μ1, Vd e.1 c ∧ fX9_write n (if wr r = 0 then 0 else 1) μ = some ((wrt c).1, μ1) ∧ XW μ1 (wrt c) ∧ WR (wrt c) ∧ (wrt c).1 ≤ 64 ∧ Fr [76, 77] μ μ1 ∧ ∃ μ2, fX10_write n (if wr r = 0 then 0 else 1) μ1 = some ((wrt c).1, μ2) ∧ MW μ2 (wrt c) ∧ Fr [78, 91] μ1 μ2 ∧ ∀ i, i ≠ 4 → i ≠ 26 → rd μ2 78 i = rd μ1 78 i := by
    by_cases z : wr r = 0
    · obtain ⟨μ1, b1, b2, b3, b4, b5⟩ := x_print (g := 11) hn R.2.1.1.1 R.1.1 (by decide)
      have M1 := R.2.2.1.kp (b5 79 (by decide))
      obtain ⟨μ2, d1, d2, d3, d4⟩ := m_print (s := if wr r = 0 then 0 else 1) hn M1.2.2.1 (Or.inl ⟨(wr_bo r).mpr z, rfl⟩) R.1.1
      refine ⟨e.2.2.1, μ1, R.1.1, ?_, b2, b3, b4, b5, μ2, d1, d2, d3, d4⟩
      unfold fX9_write
      rw [x_choose, obs, if_pos z, b1, obs]
      show (some (rd μ1 76 1)).bind _ = _
      rw [obs, b2.1]
    · obtain ⟨μ1, b1, b2, b3, b4, b5⟩ := x_print (g := 13) hn R.2.1.2.1.1 R.1.2.1 (by decide)
      have M1 := R.2.2.1.kp (b5 79 (by decide))
      obtain ⟨μ2, d1, d2, d3, d4⟩ := m_print (s := if wr r = 0 then 0 else 1) hn M1.2.2.2 (Or.inr ⟨fun q => z ((wr_bo r).mp q), rfl⟩) R.1.2.1
      refine ⟨e.2.2.2, μ1, R.1.2.1, ?_, b2, b3, b4, b5, μ2, d1, d2, d3, d4⟩
      unfold fX9_write
      rw [x_choose, obs, if_neg z, b1, obs]
      show (some (rd μ1 76 1)).bind _ = _
      rw [obs, b2.1]
  obtain ⟨h1, h2, h3, h4, h5, h6, h7, h8, h9⟩ := R
  have c : ∀ a, a ≠ 76 → a ≠ 77 → a ≠ 78 → a ≠ 91 → μ2 a = μ a := fun a i1 i2 i3 i4 => (d3 a (by simp [i3, i4])).trans (b5 a (by simp [i1, i2]))
  have d : ∀ i, i ≠ 4 → i ≠ 26 → rd μ2 78 i = rd μ 78 i := fun i i1 i2 => (d4 i i1 i2).trans (rd_cg (b5 78 (by decide)) i)
  refine ⟨_, μ1, μ2, b1, d1, ⟨e, p, h, E, h1, ?_, ?_, ?_, ?_, h6, ?_, ⟨?_, ?_⟩, wrt _, ?_, d2, b3, b4⟩, b5 1001000 (by decide), c 1001000 (by decide) (by decide) (by decide) (by decide)⟩
  · exact h2.kp (rd_cg (c 0 (by decide) (by decide) (by decide) (by decide)) 11) (c 11 (by decide) (by decide) (by decide) (by decide)) (c 12 (by decide) (by decide) (by decide) (by decide)) (c 13 (by decide) (by decide) (by decide) (by decide)) (c 14 (by decide) (by decide) (by decide) (by decide))
  · exact h3.kp (c 79 (by decide) (by decide) (by decide) (by decide))
  · exact h4.kp (c 32 (by decide) (by decide) (by decide) (by decide)) (fun a a1 a2 => c a (by omega) (by omega) (by omega) (by omega))
  · exact h5.kp (d 3 (by decide) (by decide)) (c 81 (by decide) (by decide) (by decide) (by decide))
  · exact h7.kp (rd_cg (c 1 (by decide) (by decide) (by decide) (by decide)) 5) (c 2 (by decide) (by decide) (by decide) (by decide)) (d 6 (by decide) (by decide)) (c 82 (by decide) (by decide) (by decide) (by decide))
  · rw [rd_cg (c 1 (by decide) (by decide) (by decide) (by decide)), d 7 (by decide) (by decide)]
    exact h8.1
  · rw [rd_cg (c 1 (by decide) (by decide) (by decide) (by decide)), d 8 (by decide) (by decide)]
    exact h8.2
  · exact ⟨(rd_cg (d3 76 (by decide)) 1).trans b2.1, fun i i1 i2 => (rd_cg (d3 77 (by decide)) i).trans (b2.2 i i1 i2)⟩
theorem k_feed {q r s t u : Int} (hn : 5000 ≤ n) (R : RR μ e p h E) : JN (fX9_feed n q r s t u) (fX10_feed n q r s t u) μ := by
  obtain ⟨F, b, f1, f2, f3, f4⟩ := R.2.2.2.2.2.2.1
  rcases x_feed (p := q) (q := r) (r := s) (s := t) (t := u) hn f1 f3 with ⟨c1, a1⟩ | ⟨c1, μ1, a1, a2, a3, a4⟩
  · rcases m_feed (p := q) (q := r) (r := s) (s := t) (t := u) hn f2 f3 with ⟨-, m1⟩ | ⟨c2, -⟩
    · exact ⟨-2, μ, up μ 78 4 0, a1, m1, ⟨e, p, h, E, R.q (FN.t4 _ 0).q (CM4 R.2.2.1 0)⟩, rfl, (FN.t4 _ 0).q.s⟩
    · omega
  · have f2' : BM μ1 F b := ⟨(rd_cg (a3 78 (by decide)) 6).trans f2.1, fun i i1 i2 => (rd_cg (a3 82 (by decide)) i).trans (f2.2 i i1 i2)⟩
    rcases m_feed (p := q) (q := r) (r := s) (s := t) (t := u) hn f2' f3 with ⟨c2, -⟩ | ⟨-, μ2, m1, m2, m3, m4⟩
    · omega
    · obtain ⟨h1, h2, h3, h4, h5, h6, h7, h8, h9⟩ := R
      have c : ∀ a, a ≠ 1 → a ≠ 2 → a ≠ 78 → a ≠ 82 → μ2 a = μ a := fun a i1 i2 i3 i4 => (m3 a (by simp [i3, i4])).trans (a3 a (by simp [i1, i2]))
      have d : ∀ i, i ≠ 4 → i ≠ 6 → rd μ2 78 i = rd μ 78 i := fun i i1 i2 => (m4 i i1 i2).trans (rd_cg (a3 78 (by decide)) i)
      have d1 : ∀ i, i ≠ 5 → rd μ2 1 i = rd μ 1 i := fun i i1 => (rd_cg (m3 1 (by decide)) i).trans (a4 i i1)
      refine ⟨_, μ1, μ2, a1, m1, ⟨e, p, h, E, h1, ?_, ?_, ?_, ?_, h6, ⟨F + 20, bp20 b F q r s t u, ?_, m2, by omega, bp20_r f4⟩, ⟨?_, ?_⟩, ?_⟩, a3 1001000 (by decide), c 1001000 (by decide) (by decide) (by decide) (by decide)⟩
      · exact h2.kp (rd_cg (c 0 (by decide) (by decide) (by decide) (by decide)) 11) (c 11 (by decide) (by decide) (by decide) (by decide)) (c 12 (by decide) (by decide) (by decide) (by decide)) (c 13 (by decide) (by decide) (by decide) (by decide)) (c 14 (by decide) (by decide) (by decide) (by decide))
      · exact h3.kp (c 79 (by decide) (by decide) (by decide) (by decide))
      · exact h4.kp (c 32 (by decide) (by decide) (by decide) (by decide)) (fun a a1 a2 => c a (by omega) (by omega) (by omega) (by omega))
      · exact h5.kp (d 3 (by decide) (by decide)) (c 81 (by decide) (by decide) (by decide) (by decide))
      · exact ⟨(rd_cg (m3 1 (by decide)) 5).trans a2.1, fun i i1 i2 => by rw [rd_cg (m3 2 (by decide))]; exact a2.2 i i1 i2⟩
      · rw [d1 7 (by decide), d 7 (by decide) (by decide)]
        exact h8.1
      · rw [d1 8 (by decide), d 8 (by decide) (by decide)]
        exact h8.2
      · exact h9.kp (c 76 (by decide) (by decide) (by decide) (by decide)) (c 77 (by decide) (by decide) (by decide) (by decide)) (d 26 (by decide) (by decide)) (c 91 (by decide) (by decide) (by decide) (by decide))
theorem j_load {q : Int} (hn : 5000 ≤ n) (R : RR μ e p h E) (hq : I32 q) : JT (fun x => x) (fL_load n q) (fX10_load n q) μ := by
  have hq' : -2147483648 ≤ q ∧ q ≤ 2147483647 := hq
  obtain ⟨F, b, f1, f2, f3, f4⟩ := R.2.2.2.2.2.2.1
  have hi : ∀ ν, fX10_isIn q 0 F ν = some (if 0 ≤ q ∧ q ≤ F then 1 else 0) := fun ν => m_isInG hq ⟨by omega, by omega⟩ ⟨by omega, by omega⟩
  have ef : fX5_fedBytes μ = some F := congrArg some f1.1
  by_cases c : 0 ≤ q ∧ q ≤ F
  · simp only [if_pos c] at hi
    have hb : TB b q := ⟨by omega, fun i i1 i2 => f4 i i1 (by omega)⟩
    obtain ⟨μ1, x1, x2, x3⟩ := x_text hn hb f1.1 (by omega) (fun i i1 i2 => f1.2 i i1 (by omega))
    obtain ⟨h1, h2, h3, h4, h5, h6, h7, h8, h9⟩ := R
    -- the reference's part, behind any state of the class
    have ref : ∀ ν, (∀ a, 78 ≤ a → a ≠ 92 → ν a = μ a) → ∃ μ5 μ6, fX10_putAside n (up ν 78 4 0) = some μ5 ∧ (∀ i, 0 ≤ i → i < 130 → rd μ5 80 i = rd ν 79 i) ∧ Fr [80] (up ν 78 4 0) μ5 ∧ Fr [78, 79, 83, 87] μ5 μ6 ∧ (∀ i, (i < 9 ∨ 16 < i) → i ≠ 6 → rd μ6 78 i = rd μ5 78 i) ∧ rd μ6 78 6 = 0 ∧ ((∃ p, ptx b q = .inl p ∧ fX10_parse n q μ5 = some (0, μ6) ∧ ME μ6 p) ∨ ∃ st, ptx b q = .inr st ∧ fX10_parse n q μ5 = some (1, μ6) ∧ CM μ6 st ∧ ME μ6 (0, -1)) := by
      intro ν hν
      obtain ⟨μ5, p1, p2, p3⟩ := m_putAside (μ := up ν 78 4 0) hn
      obtain ⟨μ6, t1, t2, t3, t4⟩ := m_text (μ := μ5) (b := b) (e := q) hn hb (fun i i1 i2 => by
        rw [rd_cg (p3 82 (by decide)), rd_na (by decide), rd_cg (hν 82 (by omega) (by decide))]
        exact f2.2 i i1 (by omega))
      exact ⟨μ5, μ6, p1, fun i i1 i2 => (p2 i i1 i2).trans (rd_na (by decide)), p3, t1, t2, t3, t4⟩
    have e6 : ∀ ν : qMu, (∀ a, 78 ≤ a → a ≠ 92 → ν a = μ a) → rd ν 78 6 = F := fun ν hν => (rd_cg (hν 78 (by omega) (by decide)) 6).trans f2.1
    rcases x3 with ⟨pe, y1, y2, y3⟩ | ⟨st, y1, y2, y3, y4, y5, y6⟩
    · have hν : ∀ a, 78 ≤ a → a ≠ 92 → (up μ1 92 0 (-3)) a = μ a := fun a a1 a2 => (up_ne a2).trans (x1 a (by simp; omega))
      obtain ⟨μ5, μ6, p1, p2, p3, t1, t2, t3, t4⟩ := ref _ hν
      rcases t4 with ⟨pe', z1, z2, z3⟩ | ⟨st', z1, -⟩
      · rw [y1] at z1
        cases z1
        obtain ⟨μ7, hμ7⟩ : ∃ μ7, μ7 = up (up μ6 78 7 (rd μ6 78 14)) 78 8 (rd (up μ6 78 7 (rd μ6 78 14)) 78 15) := ⟨_, rfl⟩
        have e7 : rd μ7 78 7 = pe.1 := by
          rw [hμ7, rd_ni (by decide), rd_at, z3.1, ← z3.1, wr_rd]
        have e8 : rd μ7 78 8 = pe.2 := by
          rw [hμ7, rd_at, rd_ni (by decide), wr_rd]
          exact z3.2
        have f7 : Fo 78 [7, 8] μ6 μ7 := by
          rw [hμ7]
          exact (Fo.up (by simp)).tr (Fo.up (by simp))
        obtain ⟨μ2, o1, o2, o3⟩ := m_layBack (μ := μ7) hn
        have aside : ∀ i, 0 ≤ i → i < 130 → rd μ2 79 i = rd μ 79 i := fun i i1 i2 => by
          rw [o2 i i1 i2, rd_cg (f7.1 80 (by decide)), rd_cg (t1 80 (by decide)), p2 i i1 i2, rd_cg (hν 79 (by omega) (by decide))]
        have CM2 : CM μ2 e := (h3.bk.to (A' := 79) (o' := 0) (fun i i1 i2 => by
          rw [Int.zero_add]
          exact aside i i1 i2)).cm
        have r78 : ∀ i, (i < 9 ∨ 16 < i) → i ≠ 6 → i ≠ 7 → i ≠ 8 → i ≠ 4 → rd μ2 78 i = rd μ 78 i := fun i i1 i2 i3 i4 i5 => by
          rw [rd_cg (o3 78 (by decide)), f7.2 i (by simp; omega), t2 i i1 i2, rd_cg (p3 78 (by decide)), rd_ni i5, rd_cg (hν 78 (by omega) (by decide))]
        have c2 : ∀ a, a ∉ [1, 3, 4, 5, 6, 7, 8, 9, 10, 78, 79, 80, 83, 87, 92] → μ2 a = μ a := fun a ha => by
          simp only [List.mem_cons, List.not_mem_nil, or_false] at ha
          rw [o3 a (by simp; omega), f7.1 a (by omega), t1 a (by simp; omega), p3 a (by simp; omega), up_ne (by omega), up_ne (by omega)]
          exact x1 a (by simp; omega)
        have d1 : ∀ i, rd μ2 1 i = rd μ1 1 i := fun i => by
          rw [rd_cg (o3 1 (by decide)), rd_cg (f7.1 1 (by decide)), rd_cg (t1 1 (by decide)), rd_cg (p3 1 (by decide)), rd_na (by decide), rd_na (by decide)]
        have f6 : rd μ2 78 6 = 0 := by
          rw [rd_cg (o3 78 (by decide)), f7.2 6 (by decide)]
          exact t3
        have f4' : rd μ2 78 4 = 0 := by
          rw [rd_cg (o3 78 (by decide)), f7.2 4 (by decide), t2 4 (by omega) (by decide), rd_cg (p3 78 (by decide)), rd_at]
          rfl
        have g7 : rd μ2 78 7 = pe.1 := (rd_cg (o3 78 (by decide)) 7).trans e7
        have g8 : rd μ2 78 8 = pe.2 := (rd_cg (o3 78 (by decide)) 8).trans e8
        refine ⟨0, up μ1 92 0 (-3), -3, μ2, ?_, ?_, f4', fun _ => ?_, ⟨e, p, h, E, h1, ?_, CM2, ?_, ?_, h6, ⟨0, b, ⟨?_, fun i i1 i2 => by omega⟩, ⟨f6, fun i i1 i2 => by omega⟩, by omega, fun i i1 i2 => by omega⟩, ⟨?_, ?_⟩, ?_⟩, ?_, ?_⟩
        · unfold fL_load fX9_load
          rw [hq.w, if_neg (by omega), ef, obs, wr_id (by omega) (by omega), if_neg (by omega), y2, obs, if_pos n0w, obs, Sum.elim_inl, put92]
          rfl
        · unfold fX10_load
          rw [e6 _ hν, hi, obs, m_good1 rfl, obs, if_neg n1w, p1, obs, z2, obs, qPf_eq, obs, qPf_eq, obs]
          show (if wr 0 = 0 then (fX10_layBack n (up (up μ6 78 7 (rd μ6 78 14)) 78 8 (rd (up μ6 78 7 (rd μ6 78 14)) 78 15))).bind _ else _) = _
          rw [← hμ7, if_pos n0w, o1]
          rfl
        · rw [rd_cg (o3 92 (by decide)), rd_cg (f7.1 92 (by decide)), rd_cg (t1 92 (by decide)), rd_cg (p3 92 (by decide)), rd_na (by decide), rd_at]
          rfl
        · exact h2.kp (rd_cg (c2 0 (by decide)) 11) (c2 11 (by decide)) (c2 12 (by decide)) (c2 13 (by decide)) (c2 14 (by decide))
        · exact h4.kp (c2 32 (by decide)) (fun a a1 a2 => c2 a (by simp; omega))
        · exact h5.kp (r78 3 (by omega) (by decide) (by decide) (by decide) (by decide)) (c2 81 (by decide))
        · exact (d1 5).trans x2
        · rw [d1, g7]
          exact y3.1
        · rw [d1, g8]
          exact y3.2
        · exact h9.kp (c2 76 (by decide)) (c2 77 (by decide)) (r78 26 (by omega) (by decide) (by decide) (by decide) (by decide)) (c2 91 (by decide))
        · exact (up_ne (by decide)).trans (x1 1001000 (by decide))
        · exact c2 1001000 (by decide)
      · rw [y1] at z1
        cases z1
    · have hE := ptx_ok (by omega) y1
      obtain ⟨hb1, hb2, hb3⟩ := hE.bd
      have hN := hE.1.N
      have h16 := hE.1.2.2.2.2
      have h00 := hE.1.e0
      obtain ⟨μ3, u1, u2, u3⟩ := x_become (g := 11) hn y3 hE.1.bd (by decide) (by decide) (by decide) hb1 hb3
      obtain ⟨μ4, v1, v2, v3⟩ := x_become (g := 13) hn (y4.kp (u3 5 (by decide)) (u3 6 (by decide))) hE.2.1.bd (by decide) (by decide) (by decide) hb2 hb3
      have e4 : rd μ4 1 4 = st.2.1 := by
        rw [rd_cg (v3 1 (by decide)), rd_cg (u3 1 (by decide))]
        exact y5
      obtain ⟨μ8, hμ8⟩ : ∃ μ8, μ8 = up (up (up μ4 0 11 st.2.1) 32 3 0) 32 4 0 := ⟨_, rfl⟩
      have f8 : Fr [0, 32] μ4 μ8 := by
        rw [hμ8]
        exact ((Fr.up (by simp)).tr (Fr.up (by simp))).tr (Fr.up (by simp))
      have X8 : CX μ8 st := by
        refine ⟨(u2.kp (v3 11 (by decide)) (v3 12 (by decide))).kp (f8 11 (by decide)) (f8 12 (by decide)), v2.kp (f8 13 (by decide)) (f8 14 (by decide)), ?_⟩
        rw [hμ8, rd_na (by decide), rd_na (by decide), rd_at]
        exact wr_id (by have := hE.2.2; omega) (by have := hE.2.2; omega)
      have H8 : HX μ8 0 0 E := by
        refine ⟨by omega, ?_, ?_, fun j hj => by omega⟩
        · rw [hμ8, rd_ni (by decide), rd_at]
          rfl
        · rw [hμ8, rd_at]
          rfl
      have fa : Fr [0, 1, 3, 4, 5, 6, 7, 8, 9, 10, 11, 12, 13, 14, 32] μ μ8 := (((x1.wk (by simp)).tr (u3.wk (by simp))).tr (v3.wk (by simp))).tr (f8.wk (by simp))
      have e1 : ∀ i, rd μ8 1 i = rd μ1 1 i := fun i => by
        rw [rd_cg (f8 1 (by decide)), rd_cg (v3 1 (by decide)), rd_cg (u3 1 (by decide))]
      have ec : fX1_edgeCount 11 μ8 = some (Ed st.2.2.1) := congrArg some X8.1.2
      have hν : ∀ a, 78 ≤ a → a ≠ 92 → (up μ8 92 0 (Ed st.2.2.1)) a = μ a := fun a a1 a2 => (up_ne a2).trans (fa a (by simp; omega))
      obtain ⟨μ5, μ6, p1, p2, p3, t1, t2, t3, t4⟩ := ref _ hν
      rcases t4 with ⟨pe', z1, -⟩ | ⟨st', z1, z2, z3, z4⟩
      · rw [y1] at z1
        cases z1
      · rw [y1] at z1
        cases z1
        obtain ⟨μ2, hμ2⟩ : ∃ μ2, μ2 = up (up (up μ6 78 7 (rd μ6 78 14)) 78 8 (rd (up μ6 78 7 (rd μ6 78 14)) 78 15)) 78 3 0 := ⟨_, rfl⟩
        have f2' : Fo 78 [3, 7, 8] μ6 μ2 := by
          rw [hμ2]
          exact ((Fo.up (by simp)).tr (Fo.up (by simp))).tr (Fo.up (by simp))
        have g3 : rd μ2 78 3 = 0 := by
          rw [hμ2, rd_at]
          rfl
        have g7 : rd μ2 78 7 = 0 := by
          rw [hμ2, rd_ni (by decide), rd_ni (by decide), rd_at, wr_rd]
          exact z4.1
        have g8 : rd μ2 78 8 = -1 := by
          rw [hμ2, rd_ni (by decide), rd_at, wr_rd, rd_ni (by decide)]
          exact z4.2
        have CM2 : CM μ2 st := z3.kp (f2'.1 79 (by decide))
        have r78 : ∀ i, (i < 9 ∨ 16 < i) → i ≠ 6 → i ≠ 7 → i ≠ 8 → i ≠ 4 → i ≠ 3 → rd μ2 78 i = rd μ 78 i := fun i i1 i2 i3 i4 i5 i6 => by
          rw [f2'.2 i (by simp; omega), t2 i i1 i2, rd_cg (p3 78 (by decide)), rd_ni i5, rd_cg (hν 78 (by omega) (by decide))]
        have c2 : ∀ a, a ∉ [78, 79, 80, 83, 87, 92] → μ2 a = μ8 a := fun a ha => by
          simp only [List.mem_cons, List.not_mem_nil, or_false] at ha
          rw [f2'.1 a (by omega), t1 a (by simp; omega), p3 a (by simp; omega), up_ne (by omega), up_ne (by omega)]
        have c3 : ∀ a, a ∉ [0, 1, 3, 4, 5, 6, 7, 8, 9, 10, 11, 12, 13, 14, 32, 78, 79, 80, 83, 87, 92] → μ2 a = μ a := fun a ha => by
          simp only [List.mem_cons, List.not_mem_nil, or_false] at ha
          rw [c2 a (by simp; omega)]
          exact fa a (by simp; omega)
        have f6 : rd μ2 78 6 = 0 := by
          rw [f2'.2 6 (by decide)]
          exact t3
        have f4' : rd μ2 78 4 = 0 := by
          rw [f2'.2 4 (by decide), t2 4 (by omega) (by decide), rd_cg (p3 78 (by decide)), rd_at]
          rfl
        refine ⟨0, up μ8 92 0 (Ed st.2.2.1), Ed st.2.2.1, μ2, ?_, ?_, f4', fun _ => ?_, ⟨st, 0, 0, E, hE, ?_, CM2, ?_, ⟨by omega, g3, fun j hj => by omega⟩, fun j hj => by omega, ⟨0, b, ⟨?_, fun i i1 i2 => by omega⟩, ⟨f6, fun i i1 i2 => by omega⟩, by omega, fun i i1 i2 => by omega⟩, ⟨?_, ?_⟩, ?_⟩, ?_, ?_⟩
        · have es : ∀ ν, fX5_readGraph ν = some 3 := fun _ => rfl
          have et : ∀ ν, fX5_readTarget ν = some 5 := fun _ => rfl
          have em : fX5_readMode μ4 = some st.2.1 := congrArg some e4
          have eg : fX2_forget (up μ4 0 11 st.2.1) = some μ8 := by
            unfold fX2_forget
            rw [qPf_eq, obs, qPf_eq, obs, hμ8]
          unfold fL_load fX9_load
          rw [hq.w, if_neg (by omega), ef, obs, wr_id (by omega) (by omega), if_neg (by omega), y2, obs, if_neg n1w, es, obs, u1, obs, et, obs, v1, obs, em, obs, qPf_eq, obs, eg, obs, ec, obs, obs, Sum.elim_inl, put92]
          rfl
        · have ee := m_edgesOf hn CM2.2.2.1 (Or.inl rfl)
          unfold fX10_load
          rw [e6 _ hν, hi, obs, m_good1 rfl, obs, if_neg n1w, p1, obs, z2, obs, qPf_eq, obs, qPf_eq, obs, if_neg n1w, qPf_eq, obs]
          show (fX10_edgesOf n 2 (up (up (up μ6 78 7 (rd μ6 78 14)) 78 8 (rd (up μ6 78 7 (rd μ6 78 14)) 78 15)) 78 3 0)).bind _ = _
          rw [← hμ2, ee]
          rfl
        · rw [rd_cg (f2'.1 92 (by decide)), rd_cg (t1 92 (by decide)), rd_cg (p3 92 (by decide)), rd_na (by decide), rd_at]
          exact wr_id (by omega) (by omega)
        · exact X8.kp (rd_cg (c2 0 (by decide)) 11) (c2 11 (by decide)) (c2 12 (by decide)) (c2 13 (by decide)) (c2 14 (by decide))
        · exact H8.kp (c2 32 (by decide)) (fun a a1 a2 => c2 a (by simp; omega))
        · rw [rd_cg (c2 1 (by decide)), e1]
          exact x2
        · rw [rd_cg (c2 1 (by decide)), e1, g7]
          exact y6.1
        · rw [rd_cg (c2 1 (by decide)), e1, g8]
          exact y6.2
        · exact h9.kp (c3 76 (by decide)) (c3 77 (by decide)) (r78 26 (by omega) (by decide) (by decide) (by decide) (by decide) (by decide)) (c3 91 (by decide))
        · exact (up_ne (by decide)).trans (fa 1001000 (by decide))
        · exact c3 1001000 (by decide)
  · simp only [if_neg c] at hi
    refine JT.mk (k := 1) (b := 0) R ?_ (FC.rf μ) ?_ (FN.t4 _ 1) (R.2.2.1.kp (up_ne (by decide))) rd_at (fun z => absurd z (by decide))
    · unfold fL_load fX9_load
      rw [hq.w]
      by_cases c1 : q < 0
      · rw [if_pos c1]
        rfl
      · rw [if_neg c1, ef, obs, wr_id (by omega) (by omega), if_pos (by omega)]
        rfl
    · unfold fX10_load
      rw [f2.1, hi, obs, m_good0 rfl]
      rfl
end MU3
