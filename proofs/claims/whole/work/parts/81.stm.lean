/-! STATEMENTS of the text, the reference's -/
def FM (μ μ' : qMu) : Prop := Fr [78, 79, 83, 87] μ μ' ∧ ∀ i, (i ≤ 9 ∨ 16 < i) → rd μ' 78 i = rd μ 78 i
theorem FM.rf (μ : qMu) : FM μ μ := ⟨Fr.rf _ _, fun _ _ => rfl⟩
theorem FM.tr {μ1 μ2 μ3 : qMu} (h1 : FM μ1 μ2) (h2 : FM μ2 μ3) : FM μ1 μ3 := ⟨h1.1.tr h2.1, fun i hi => (h2.2 i hi).trans (h1.2 i hi)⟩
theorem Fo.fm {l : List Int} {μ μ' : qMu} (h : Fo 78 l μ μ') (hl : ∀ x ∈ l, 10 ≤ x ∧ x ≤ 16) : FM μ μ' := ⟨fun a ha => h.1 a (fun q => ha (by rw [q]; decide)), fun i hi => h.2 i (fun q => by have := hl i q; omega)⟩
theorem Fr.fm {l : List Nat} {μ μ' : qMu} (h : Fr l μ μ') (hl : ∀ a ∈ l, a ∈ [79, 83, 87]) : FM μ μ' := by
  have h1 : (78 : Nat) ∉ l := fun q => by
    have := hl 78 q
    revert this
    decide
  exact ⟨h.wk (fun a ha => List.mem_cons_of_mem _ (hl a ha)), fun i _ => rd_cg (h 78 h1) i⟩
theorem TM.fm {μ μ' : qMu} {b : Int → Int} {e : Int} (h : TM μ b e) (f : FM μ μ') : TM μ' b e := ⟨(f.2 9 (by omega)).trans h.1, fun i i1 i2 => by rw [rd_cg (f.1 82 (by decide))]; exact h.2 i i1 i2⟩
theorem KM.kp {μ μ' : qMu} {b : Int → Int} {e s : Int} (h : KM μ b e s) (f : μ' 78 = μ 78) : KM μ' b e s := by
  obtain ⟨h1, h2, h3, h4⟩ := h
  exact ⟨(rd_cg f 10).trans h1, (rd_cg f 11).trans h2, (rd_cg f 12).trans h3, fun q => (rd_cg f 13).trans (h4 q)⟩
theorem ME.kp {μ μ' : qMu} {p : Int × Int} (h : ME μ p) (f : μ' 78 = μ 78) : ME μ' p := ⟨(rd_cg f 14).trans h.1, (rd_cg f 15).trans h.2⟩
theorem ME.kf {μ μ' : qMu} {p : Int × Int} {l : List Int} (h : ME μ p) (f : Fo 78 l μ μ') (hl : (14 : Int) ∉ l ∧ (15 : Int) ∉ l) : ME μ' p := ⟨(f.2 14 hl.1).trans h.1, (f.2 15 hl.2).trans h.2⟩
def PM (μ : qMu) (b : Int → Int) (e s : Int) (st : qEn) : Prop := TM μ b e ∧ KM μ b e s ∧ CM μ st ∧ ME μ (0, -1)
def MO (o : pO) (b : Int → Int) (e : Int) (μ : qMu) (r : Option (Int × qMu)) : Prop := ∃ μ', FM μ μ' ∧ ((∃ p, o = .inl p ∧ r = some (0, μ') ∧ ME μ' p) ∨ ∃ s st, o = .inr (s, st) ∧ (0 ≤ s ∧ s ≤ e) ∧ r = some (1, μ') ∧ PM μ' b e s st)
/-- behind the semicolon -/
def MC (o : pO) (b : Int → Int) (e : Int) (μ : qMu) (r : Option (Int × qMu)) : Prop := ∃ μ', FM μ μ' ∧ ((∃ p, o = .inl p ∧ r = some (0, μ') ∧ ME μ' p) ∨ ∃ s st, o = .inr (s, st) ∧ r = some (1, μ') ∧ PM μ' b e (nx b e s) st)
section STM
variable {μ μ1 : qMu} {n : Nat} {b : Int → Int} {e s : Int} {st : qEn}
theorem MO.fail {o : pO} {p : Int × Int} {r : Option (Int × qMu)} (f : FM μ μ1) (ho : o = .inl p) (hr : r = some (0, μ1)) (h : ME μ1 p) : MO o b e μ r := ⟨μ1, f, Or.inl ⟨p, ho, hr, h⟩⟩
theorem m_adv (hn : 5000 ≤ n) (hb : TB b e) (hT : TM μ b e) (hs : 0 ≤ s ∧ s ≤ e) (hK : KM μ b e s) : ∃ μ', fX10_advance n μ = some (1, μ') ∧ KM μ' b e (nx b e s) ∧ Fo 78 [10, 11, 12, 13] μ μ' := by
  have hE := tkE_r (b := b) hs
  exact m_advance hn hT hb (p := tkE b e s) (by omega) hK.2.1
theorem PM.ad {l : List Int} (hP : PM μ b e s st) {s' : Int} (hK : KM μ1 b e s') (f : Fo 78 l μ μ1) (hl : (9 : Int) ∉ l ∧ (14 : Int) ∉ l ∧ (15 : Int) ∉ l) : PM μ1 b e s' st := by
  obtain ⟨h1, -, h3, h4⟩ := hP
  exact ⟨h1.kp f hl.1, hK, h3.kp (f.1 79 (by decide)), h4.kf f hl.2⟩
theorem m_close {o : pO} {r : Option (Int × qMu)} (hn : 5000 ≤ n) (hb : TB b e) (h : MO o b e μ r) : MC (pcl b e o) b e μ (r.bind fun y => if wr y.1 = 0 then some (0, y.2) else (fX10_closed n y.2).bind fun z => if wr z.1 = 0 then some (0, z.2) else some (1, z.2)) := by
  have h1 := hb.1
  obtain ⟨μ1, f1, ⟨p, rfl, rfl, h4⟩ | ⟨s, st, rfl, h3, rfl, h4⟩⟩ := h
  · refine ⟨μ1, f1, Or.inl ⟨p, rfl, rfl, h4⟩⟩
  · rcases m_closed hn h4.1 hb h3 h4.2.1 with ⟨c1, μ2, a1, a2, a3⟩ | ⟨c1, μ2, a1, a2, a3⟩
    · refine ⟨μ2, f1.tr (a3.fm (by decide)), Or.inr ⟨s, st, if_pos c1, ?_, h4.ad a2 a3 (by decide)⟩⟩
      simp (disch := omega) only [ite_true, Option.bind_some, wr_id, if_neg, a1]
    · refine ⟨μ2, f1.tr (a3.fm (by decide)), Or.inl ⟨_, if_neg c1, ?_, a2⟩⟩
      simp (disch := omega) only [ite_true, Option.bind_some, wr_id, if_neg, if_pos, a1]
theorem m_ver (hn : 5000 ≤ n) (hb : TB b e) (hs : 0 ≤ s ∧ s ≤ e) (hP : PM μ b e s (1, 0, zc, zc)) : MO (pver b e s) b e μ (fX10_verticesStatement n μ) := by
  have h1 := hb.1
  have n1 := (nx_r (b := b) hs).1
  have n2 := (nx_r (b := b) n1).1
  obtain ⟨μ1, a1, a2, a3⟩ := m_adv hn hb hP.1 hs hP.2.1
  have p1 := hP.ad a2 a3 (by decide)
  have f1 : FM μ μ1 := a3.fm (by decide)
  rcases m_number hn p1.1 hb n1 a2 (lo := 1) (hi := 8) (by omega) (by omega) with ⟨p, μ2, b1, b2, b3, b4⟩ | ⟨μ2, b1, b2, b3, b4, b5, b6⟩
  · refine MO.fail (f1.tr (b4.fm (by decide))) (p := p) ?_ ?_ b3
    · simp only [pver, b1, pbd]
    · simp (disch := omega) only [ite_true, fX10_verticesStatement, a1, b2, Option.bind_some, wr_id, if_pos]
  · have p2 := p1.ad b5 b6 (by decide)
    have d4 : Fr [79] μ2 (up μ2 79 0 (tkV b e (nx b e s))) := Fr.up (by simp)
    have f2 : FM μ (up μ2 79 0 (tkV b e (nx b e s))) := (f1.tr (b6.fm (by decide))).tr (d4.fm (by decide))
    refine ⟨_, f2, Or.inr ⟨nx b e (nx b e s), (tkV b e (nx b e s), 0, zc, zc), ?_, n2, ?_, hP.1.fm f2, b5.kp (d4 78 (by decide)), ⟨?_, ?_, ?_, ?_⟩, p2.2.2.2.kp (d4 78 (by decide))⟩⟩
    · simp only [pver, b1, pbd]
    · simp (disch := omega) only [ite_true, fX10_verticesStatement, a1, b3, b4, qSa_in, Option.bind_some, wr_id, if_neg]
    · rw [rd_at]
      exact wr_id (by omega) (by omega)
    · rw [rd_ni (by decide)]
      exact p2.2.2.1.2.1
    · intro u v hu hv
      rw [rd_ni (by omega)]
      exact p2.2.2.1.2.2.1 u v hu hv
    · intro u v hu hv
      rw [rd_ni (by omega)]
      exact p2.2.2.1.2.2.2 u v hu hv
theorem m_mod (hn : 5000 ≤ n) (hb : TB b e) (hs : 0 ≤ s ∧ s ≤ e) (hP : PM μ b e s st) : MO (pmod b e s st) b e μ (fX10_modeStatement n μ) := by
  have h1 := hb.1
  have n1 := (nx_r (b := b) hs).1
  have n2 := (nx_r (b := b) n1).1
  obtain ⟨μ1, a1, a2, a3⟩ := m_adv hn hb hP.1 hs hP.2.1
  have p1 := hP.ad a2 a3 (by decide)
  have f1 : FM μ μ1 := a3.fm (by decide)
  rcases m_number hn p1.1 hb n1 a2 (lo := 0) (hi := 2) (by omega) (by omega) with ⟨p, μ2, b1, b2, b3, b4⟩ | ⟨μ2, b1, b2, b3, b4, b5, b6⟩
  · refine MO.fail (f1.tr (b4.fm (by decide))) (p := p) ?_ ?_ b3
    · simp only [pmod, b1, pbd]
    · simp (disch := omega) only [ite_true, fX10_modeStatement, a1, b2, Option.bind_some, wr_id, if_pos]
  · have p2 := p1.ad b5 b6 (by decide)
    have d4 : Fr [79] μ2 (up μ2 79 1 (tkV b e (nx b e s))) := Fr.up (by simp)
    have f2 : FM μ (up μ2 79 1 (tkV b e (nx b e s))) := (f1.tr (b6.fm (by decide))).tr (d4.fm (by decide))
    refine ⟨_, f2, Or.inr ⟨nx b e (nx b e s), (st.1, tkV b e (nx b e s), st.2.2.1, st.2.2.2), ?_, n2, ?_, hP.1.fm f2, b5.kp (d4 78 (by decide)), ⟨?_, ?_, ?_, ?_⟩, p2.2.2.2.kp (d4 78 (by decide))⟩⟩
    · simp only [pmod, b1, pbd]
    · simp (disch := omega) only [ite_true, fX10_modeStatement, a1, b3, b4, qSa_in, Option.bind_some, wr_id, if_neg]
    · rw [rd_ni (by decide)]
      exact p2.2.2.1.1
    · rw [rd_at]
      exact wr_id (by omega) (by omega)
    · intro u v hu hv
      rw [rd_ni (by omega)]
      exact p2.2.2.1.2.2.1 u v hu hv
    · intro u v hu hv
      rw [rd_ni (by omega)]
      exact p2.2.2.1.2.2.2 u v hu hv
theorem m_edT {T : Int} (hn : 5000 ≤ n) (h : CM μ st) (hT : T = 2 ∨ T = 66) : fX10_edgesOf n T μ = some (Ed (cT T st)) := by
  rcases hT with rfl | rfl
  · exact m_edgesOf hn h.2.2.1 (Or.inl rfl)
  · exact m_edgesOf hn h.2.2.2 (Or.inr rfl)
theorem m_addT {T u v k : Int} (hP : PM μ b e s st) (hE : EV st) (hT : T = 2 ∨ T = 66) (hu : 0 ≤ u ∧ u < 8) (hv : 0 ≤ v ∧ v < 8) (hk : 0 ≤ k ∧ k ≤ 9) : ∃ μ', fX10_adds T u v k μ = some μ' ∧ PM μ' b e s (ste T st u v k) ∧ FM μ μ' := by
  obtain ⟨h1, h2, h3, h4⟩ := hP
  obtain ⟨μ', a1, a2, a3⟩ := m_adds h3 hT hE.1.bd hE.2.1.bd hu hv (k := k) (by omega)
  exact ⟨μ', a1, ⟨h1.fm (a3.fm (by decide)), h2.kp (a3 78 (by decide)), a2, h4.kp (a3 78 (by decide))⟩, a3.fm (by decide)⟩
theorem m_edge {T : Int} (hn : 5000 ≤ n) (hb : TB b e) (hs : 0 ≤ s ∧ s ≤ e) (hP : PM μ b e s st) (hE : EV st) (hT : T = 2 ∨ T = 66) : MO (pedg b e T s st) b e μ (fX10_edgeStatement n T μ) := by
  have h1 := hb.1
  have hN := hE.1.N
  have hEd := cT_rx (T := T) hE
  have n1 := (nx_r (b := b) hs).1
  have n2 := (nx_r (b := b) n1).1
  have n3 := (nx_r (b := b) n2).1
  have n4 := (nx_r (b := b) n3).1
  unfold pedg
  obtain ⟨μ1, a1, a2, a3⟩ := m_adv hn hb hP.1 hs hP.2.1
  have p1 := hP.ad a2 a3 (by decide)
  have f1 : FM μ μ1 := a3.fm (by decide)
  generalize nx b e s = s1 at *
  have v1 : rd μ1 79 0 = st.1 := p1.2.2.1.1
  unfold fX10_edgeStatement
  rw [a1, obs, qLd_in (by omega), obs, v1]
  rcases m_number hn p1.1 hb n1 a2 (lo := 0) (hi := st.1 - 1) (by omega) (by omega) with ⟨p, μ2, b1, b2, b3, b4⟩ | ⟨μ2, b1, b2, b3, b4, b5, b6⟩
  · rw [b2, obs, if_pos n0w, b1]
    exact MO.fail (f1.tr (b4.fm (by decide))) (p := p) rfl rfl b3
  · have p2 := p1.ad b5 b6 (by decide)
    have f2 : FM μ μ2 := f1.tr (b6.fm (by decide))
    have v2 : rd μ2 79 0 = st.1 := p2.2.2.1.1
    generalize nx b e s1 = s2 at *
    rw [b3, obs, if_neg n1w, qLd_in (by omega), obs, v2, b1, b4]
    show MO (pbd (pnum b e s2 0 (st.1 - 1)) _) b e μ _
    generalize tkV b e s1 = u at *
    rcases m_number hn p2.1 hb n2 b5 (lo := 0) (hi := st.1 - 1) (by omega) (by omega) with ⟨p, μ3, g1, g2, g3, g4⟩ | ⟨μ3, g1, g2, g3, g4, g5, g6⟩
    · rw [g2, obs, if_pos n0w, g1]
      exact MO.fail (f2.tr (g4.fm (by decide))) (p := p) rfl rfl g3
    · have p3 := p2.ad g5 g6 (by decide)
      have f3 : FM μ μ3 := f2.tr (g6.fm (by decide))
      generalize nx b e s2 = s3 at *
      have k3 := g5.2.2.1
      have hk := kr_4 b e s3
      have ed := m_edT (T := T) hn p3.2.2.1 hT
      rw [g3, obs, if_neg n1w, g1, g4]
      show MO (if tkK b e s3 = 2 then _ else _) b e μ _
      generalize tkV b e s2 = v at *
      by_cases c1 : tkK b e s3 = 2
      · have k3' : rd μ3 78 12 = 3 := k3.trans (hk.2.2.1.mpr c1)
        have k4 := g5.2.2.2 c1
        have hv := tkV_r hb n3 c1
        have ei := m_isIn (μ := μ3) (x := tkV b e s3) (lo := 1) (hi := 9) (by omega) (by omega) (by omega)
        rw [if_pos c1, k3', if_pos (show wr 3 = 3 from rfl), k4, ei, obs]
        by_cases c2 : tkV b e s3 < 1 ∨ 9 < tkV b e s3
        · obtain ⟨μ4, m1, m2, m3⟩ := m_fail g5 (by omega) (w := 3) (by omega)
          have j1 : pnum b e s3 1 9 = .inl (er b e s3 3) := by
            unfold pnum
            rw [if_pos c1, if_pos c2]
          rw [if_pos c2, if_pos n0w, m1, j1]
          exact MO.fail (f3.tr (m3.fm (by decide))) (p := er b e s3 3) rfl rfl m2
        · have j1 : pnum b e s3 1 9 = .inr (tkV b e s3) := by
            unfold pnum
            rw [if_pos c1, if_neg c2]
          rw [if_neg c2, if_neg n1w, ed, obs, j1]
          show MO (if 16 < Ed (cT T st) + tkV b e s3 then _ else _) b e μ _
          rw [wr_id (x := Ed (cT T st) + tkV b e s3) (by omega) (by omega)]
          by_cases c3 : 16 < Ed (cT T st) + tkV b e s3
          · obtain ⟨μ4, m1, m2, m3⟩ := m_fail g5 (by omega) (w := 5) (by omega)
            rw [if_pos c3, if_pos c3, m1]
            exact MO.fail (f3.tr (m3.fm (by decide))) (p := er b e s3 5) rfl rfl m2
          · obtain ⟨μ4, m1, m2, m3⟩ := m_adv hn hb p3.1 n3 g5
            have p4 := p3.ad m2 m3 (by decide)
            obtain ⟨μ5, l1, l2, l3⟩ := m_addT p4 hE hT (u := u) (v := v) (k := tkV b e s3) (by omega) (by omega) (by omega)
            rw [if_neg c3, if_neg c3, if_pos (show wr 3 = 3 from rfl), m1, obs, obs, l1]
            exact ⟨μ5, (f3.tr (m3.fm (by decide))).tr l3, Or.inr ⟨_, _, rfl, n4, rfl, l2⟩⟩
      · have k5 : ¬ kr (tkK b e s3) = 3 := fun q => c1 (hk.2.2.1.mp q)
        rw [if_neg c1, k3, wr_id (x := kr (tkK b e s3)) (by omega) (by omega), if_neg k5]
        by_cases c2 : tkK b e s3 = 3
        · have k6 : kr (tkK b e s3) = 4 := hk.2.2.2.1.mpr c2
          rw [if_pos c2, if_pos k6, ed, obs, wr_id (x := Ed (cT T st) + 1) (by omega) (by omega)]
          by_cases c3 : 16 < Ed (cT T st) + 1
          · obtain ⟨μ4, m1, m2, m3⟩ := m_fail g5 (by omega) (w := 5) (by omega)
            rw [if_pos c3, if_pos c3, m1]
            exact MO.fail (f3.tr (m3.fm (by decide))) (p := er b e s3 5) rfl rfl m2
          · obtain ⟨μ5, l1, l2, l3⟩ := m_addT p3 hE hT (u := u) (v := v) (k := 1) (by omega) (by omega) (by omega)
            rw [if_neg c3, if_neg c3, if_neg k5, obs, l1]
            exact ⟨μ5, f3.tr l3, Or.inr ⟨_, _, rfl, n3, rfl, l2⟩⟩
        · have k6 : ¬ kr (tkK b e s3) = 4 := fun q => c2 (hk.2.2.2.1.mp q)
          obtain ⟨μ4, m1, m2, m3⟩ := m_fail g5 (by omega) (w := 2) (by omega)
          rw [if_neg c2, if_neg k6, m1]
          exact MO.fail (f3.tr (m3.fm (by decide))) (p := er b e s3 2) rfl rfl m2
end STM
