/-! THE TEXT READ, in both -/
section LOD
variable {μ : qMu} {n : Nat} {b : Int → Int} {e F : Int}
theorem x_text (hn : 5000 ≤ n) (hb : TB b e) (hF : rd μ 1 5 = F) (he : e ≤ F ∧ F ≤ 400) (hx : ∀ i, 0 ≤ i → i < e → ian (rd μ 2 i) 255 = b i) : ∃ μ', Fr [1, 3, 4, 5, 6, 7, 8, 9, 10] μ μ' ∧ rd μ' 1 5 = 0 ∧ ((∃ p, ptx b e = .inl p ∧ fX5_readText n e μ = some (0, μ') ∧ XE μ' p) ∨ ∃ st, ptx b e = .inr st ∧ fX5_readText n e μ = some (1, μ') ∧ GY μ' 3 st.1 st.2.2.1 ∧ GY μ' 5 st.1 st.2.2.2 ∧ rd μ' 1 4 = st.2.1 ∧ XE μ' (0, -1)) := by
  have h1 := hb.1
  have emn : mn e (rd μ 1 5) = e := by
    rw [hF, mn_id (by omega) (by omega)]
    split <;> omega
  obtain ⟨μ0, hμ0⟩ : ∃ μ0, μ0 = up (up (up (up (up (up μ 1 6 e) 1 5 0) 1 11 0) 1 4 0) 1 7 0) 1 8 (-1) := ⟨_, rfl⟩
  have e6 : rd μ0 1 6 = e := by
    rw [hμ0, rd_ni (by decide), rd_ni (by decide), rd_ni (by decide), rd_ni (by decide), rd_ni (by decide), rd_at]
    exact wr_id (by omega) (by omega)
  have e5 : rd μ0 1 5 = 0 := by
    rw [hμ0, rd_ni (by decide), rd_ni (by decide), rd_ni (by decide), rd_ni (by decide), rd_at]
    rfl
  have e11 : rd μ0 1 11 = 0 := by
    rw [hμ0, rd_ni (by decide), rd_ni (by decide), rd_ni (by decide), rd_at]
    rfl
  have e4 : rd μ0 1 4 = 0 := by
    rw [hμ0, rd_ni (by decide), rd_ni (by decide), rd_at]
    rfl
  have eX : XE μ0 (0, -1) := ⟨by rw [hμ0, rd_ni (by decide), rd_at]; rfl, by rw [hμ0, rd_at]; rfl⟩
  have f0 : Fr [1] μ μ0 := by
    rw [hμ0]
    exact (((((Fr.up (by simp)).tr (Fr.up (by simp))).tr (Fr.up (by simp))).tr (Fr.up (by simp))).tr (Fr.up (by simp))).tr (Fr.up (by simp))
  have hT : TX μ0 b e := ⟨e6, fun i i1 i2 => by rw [rd_cg (f0 2 (by decide))]; exact hx i i1 i2⟩
  have hs := tkS_r (b := b) (e := e) (p := 0) (by omega)
  obtain ⟨μ1, a1, a2, a3⟩ := x_advance hn hT hb (p := 0) (by omega) e11
  have f1 : FX μ0 μ1 := a3.fx (by decide) (by decide)
  have k3 := a2.2.2.1
  have hkr := tkK_r b e (tkS b e 0)
  have e4' : rd μ1 1 4 = 0 := (a3.2 4 (by decide)).trans e4
  have eX' : XE μ1 (0, -1) := eX.kf a3 (by decide)
  have er0 : fX5_readText n e μ = (fX5_readFirst n μ1).bind fun y8 => (lp (fun x : Int × Int × qMu => bX5_readText_48 n x.1 x.2.1 x.2.2) n (y8.1, 0, y8.2)).bind fun y17 => (qbl y17.1).bind fun x18 => some (x18, y17.2) := by
    unfold fX5_readText
    rw [emn, qPf_eq, obs, qPf_eq, obs, qPf_eq, obs, qPf_eq, obs, qPf_eq, obs, qPf_eq, obs, ← hμ0, a1, obs]
  have hR : XR (ptx b e) μ0 ((fX5_readFirst n μ1).bind fun y8 => lp (fun x : Int × Int × qMu => bX5_readText_48 n x.1 x.2.1 x.2.2) n (y8.1, 0, y8.2)) := by
    obtain ⟨m, rfl⟩ : ∃ m, n = m + 1 := ⟨n - 1, by omega⟩
    by_cases c0 : tkK b e (tkS b e 0) = 0
    · have e1 : ptx b e = .inr (1, 0, zc, zc) := if_pos c0
      rw [c0] at k3
      obtain ⟨μ2, b1, b2, b3, b4⟩ := x_begin (μ := μ1) hn (v := 1) (by omega)
      have ef : fX5_readFirst (m + 1) μ1 = some (1, μ2) := by
        simp (disch := omega) only [ite_true, fX5_readFirst, k3, b1, wr_id, if_pos, Option.bind_some]
      rw [e1, ef, obs]
      refine ⟨μ2, f1.tr (b4.fx (by decide)), Or.inr ⟨_, rfl, x_stop0 ((rd_cg (b4 1 (by decide)) 9).trans k3), b2, b3, (rd_cg (b4 1 (by decide)) 4).trans e4', eX'.kp (b4 1 (by decide))⟩⟩
    · have e1 : ptx b e = pbd (pcl b e (ps1 b e (tkS b e 0))) fun x => pall b e 401 (nx b e x.1) x.2 := if_neg c0
      rw [e1]
      have h8 := qsl_8
      obtain ⟨r1, w1, w2⟩ := x_isWord hn (hT.fx f1) hb (s := tkS b e 0) (by omega) a2 h8.1
      obtain ⟨r2, w3, w4⟩ := x_isWord hn (hT.fx f1) hb (s := tkS b e 0) (by omega) a2 h8.2.1
      have hO : XO (pcl b e (ps1 b e (tkS b e 0))) b e μ1 (fX5_readFirst (m + 1) μ1) := by
        unfold ps1
        rcases w2 with ⟨rfl, w2⟩ | ⟨rfl, w2⟩
        · rw [if_pos w2]
          have ef : fX5_readFirst (m + 1) μ1 = (fX5_readVertices (m + 1) μ1).bind fun y => (qbl y.1).bind fun x => some (x, y.2) := by
            simp (disch := omega) only [ite_true, fX5_readFirst, k3, w1, wr_id, if_neg, Option.bind_some]
          rw [ef]
          exact (x_ver hn hb (hT.fx f1) (by omega) a2 e4' eX').ret
        · rw [if_neg w2]
          rcases w4 with ⟨rfl, w4⟩ | ⟨rfl, w4⟩
          · rw [if_pos w4]
            have ef : fX5_readFirst (m + 1) μ1 = (fX5_readDegrees (m + 1) μ1).bind fun y => (qbl y.1).bind fun x => some (x, y.2) := by
              simp (disch := omega) only [ite_true, fX5_readFirst, k3, w1, w3, wr_id, if_neg, if_pos, Option.bind_some]
            rw [ef]
            exact (x_deg hn hb (hT.fx f1) (by omega) a2 e4' eX').ret
          · rw [if_neg w4]
            obtain ⟨μ2, m1, m2, m3⟩ := x_fail a2 (by omega) (w := 2) (by omega)
            refine XO.fail (m3.fx (by decide) (by decide)) (p := er b e (tkS b e 0) 2) rfl ?_ m2
            simp (disch := omega) only [ite_true, fX5_readFirst, k3, w1, w3, m1, wr_id, if_neg, if_pos, Option.bind_some]
            rfl
      obtain ⟨μ2, f2, ⟨p, d1, d2, d3⟩ | ⟨s1, st1, d1, d2, d3⟩⟩ := hO
      · rw [d2, d1, obs]
        exact ⟨μ2, f1.tr f2, Or.inl ⟨p, rfl, x_stop, d3⟩⟩
      · obtain ⟨g1, g2, g3⟩ := ps1_ok (by omega) d1
        have g4 := nx_r (b := b) (e := e) (s := s1) (by omega)
        rw [d2, d1, obs]
        exact XR.tr (f1.tr f2) (x_rest hn hb 401 (m + 1) s1 st1 0 μ2 (by omega) (by omega) (by omega) d3 g3 g2 (by omega))
  obtain ⟨μ2, f2, ⟨p, d1, d2, d3⟩ | ⟨st, d1, d2, d3⟩⟩ := hR
  · refine ⟨μ2, (f0.wk (by simp)).tr f2.1, f2.2.1.trans e5, Or.inl ⟨p, d1, ?_, d3⟩⟩
    rw [er0, ← Option.bind_assoc, d2]
    rfl
  · refine ⟨μ2, (f0.wk (by simp)).tr f2.1, f2.2.1.trans e5, Or.inr ⟨st, d1, ?_, d3⟩⟩
    rw [er0, ← Option.bind_assoc, d2]
    rfl
theorem m_zero (hn : 5000 ≤ n) : ∃ μ', lp (fun x : Int × qMu => bX10_parse_27 n x.1 x.2) n (0, μ) = some μ' ∧ (∀ i, 0 ≤ i → i < 130 → rd μ' 79 i = 0) ∧ Fr [79] μ μ' := by
  obtain ⟨y, r1, r2, r3⟩ := lp_inv (f := fun x : Int × qMu => bX10_parse_27 n x.1 x.2) (fun k x => (x.1 = 130 - (k : Int) ∧ 0 ≤ x.1) ∧ (∀ i, 0 ≤ i → i < x.1 → rd x.2 79 i = 0) ∧ Fr [79] μ x.2) (fun y => (∀ i, 0 ≤ i → i < 130 → rd y 79 i = 0) ∧ Fr [79] μ y) (by
    rintro k ⟨i, ξ⟩ ⟨⟨h4, h5⟩, h6, h7⟩
    dsimp only at h4 h5 h6 h7
    by_cases hi : i < 130
    · right
      refine ⟨k - 1, (i + 1, up ξ 79 i 0), ?_, by omega, ⟨by dsimp only; omega, by dsimp only; omega⟩, fun j j1 j2 => ?_, h7.tr (Fr.up (by simp))⟩
      · simp (disch := omega) only [ite_true, bX10_parse_27, wr_id, if_pos, qSa_in, Option.bind_some]
      · dsimp only at j2 ⊢
        by_cases e : j = i
        · rw [e, rd_at]
          rfl
        · rw [rd_ni e]
          exact h6 j j1 (by omega)
    · left
      refine ⟨ξ, ?_, fun j j1 j2 => h6 j j1 (by omega), h7⟩
      simp (disch := omega) only [ite_true, bX10_parse_27, wr_id, if_neg]) n 130 (0, μ) ⟨⟨rfl, Int.le_refl _⟩, fun j j1 j2 => by dsimp only at j2; omega, Fr.rf _ _⟩ (by omega)
  exact ⟨y, r1, r2, r3⟩
theorem m_text (hn : 5000 ≤ n) (hb : TB b e) (hx : ∀ i, 0 ≤ i → i < e → rd μ 82 i = b i) : ∃ μ', Fr [78, 79, 83, 87] μ μ' ∧ (∀ i, (i < 9 ∨ 16 < i) → i ≠ 6 → rd μ' 78 i = rd μ 78 i) ∧ rd μ' 78 6 = 0 ∧ ((∃ p, ptx b e = .inl p ∧ fX10_parse n e μ = some (0, μ') ∧ ME μ' p) ∨ ∃ st, ptx b e = .inr st ∧ fX10_parse n e μ = some (1, μ') ∧ CM μ' st ∧ ME μ' (0, -1)) := by
  have h1 := hb.1
  obtain ⟨μ5, hμ5⟩ : ∃ μ5, μ5 = up (up (up (up (up μ 78 9 e) 78 6 0) 78 11 0) 78 14 0) 78 15 (-1) := ⟨_, rfl⟩
  have f5 : Fo 78 [9, 6, 11, 14, 15] μ μ5 := by
    rw [hμ5]
    exact ((((Fo.up (by simp)).tr (Fo.up (by simp))).tr (Fo.up (by simp))).tr (Fo.up (by simp))).tr (Fo.up (by simp))
  have e9 : rd μ5 78 9 = e := by
    rw [hμ5, rd_ni (by decide), rd_ni (by decide), rd_ni (by decide), rd_ni (by decide), rd_at]
    exact wr_id (by omega) (by omega)
  have e6 : rd μ5 78 6 = 0 := by
    rw [hμ5, rd_ni (by decide), rd_ni (by decide), rd_ni (by decide), rd_at]
    rfl
  have e11 : rd μ5 78 11 = 0 := by
    rw [hμ5, rd_ni (by decide), rd_ni (by decide), rd_at]
    rfl
  have eM : ME μ5 (0, -1) := ⟨by rw [hμ5, rd_ni (by decide), rd_at]; rfl, by rw [hμ5, rd_at]; rfl⟩
  obtain ⟨μ8, z1, z2, z3⟩ := m_zero (μ := μ5) hn
  obtain ⟨μ0, hμ0⟩ : ∃ μ0, μ0 = up μ8 79 0 1 := ⟨_, rfl⟩
  have f0 : Fr [79] μ5 μ0 := by
    rw [hμ0]
    exact z3.tr (Fr.up (by simp))
  have hC : CM μ0 (1, 0, zc, zc) := by
    rw [hμ0]
    refine ⟨rd_at, ?_, fun u v hu hv => ?_, fun u v hu hv => ?_⟩
    · rw [rd_ni (by decide)]
      exact z2 1 (by omega) (by omega)
    · rw [rd_ni (by omega)]
      exact z2 _ (by omega) (by omega)
    · rw [rd_ni (by omega)]
      exact z2 _ (by omega) (by omega)
  have hT : TM μ0 b e := ⟨(rd_cg (f0 78 (by decide)) 9).trans e9, fun i i1 i2 => by rw [rd_cg (f0 82 (by decide)), rd_cg (f5.1 82 (by decide))]; exact hx i i1 i2⟩
  have hs := tkS_r (b := b) (e := e) (p := 0) (by omega)
  obtain ⟨μ1, a1, a2, a3⟩ := m_advance hn hT hb (p := 0) (by omega) ((rd_cg (f0 78 (by decide)) 11).trans e11)
  have f1 : FM μ0 μ1 := a3.fm (by decide)
  have hP : PM μ1 b e (tkS b e 0) (1, 0, zc, zc) := ⟨hT.fm f1, a2, hC.kp (a3.1 79 (by decide)), (eM.kp (f0 78 (by decide))).kf a3 (by decide)⟩
  have k3 := a2.2.2.1
  have hkr := kr_4 b e (tkS b e 0)
  have hR : MR (ptx b e) μ0 (fX10_parse n e μ) := by
    have er0 : fX10_parse n e μ = ((if wr (rd μ1 78 12) = 0 then some (1, μ1) else (fX10_firstStatement n μ1).bind fun y13 => if wr y13.1 = 0 then some (0, y13.2) else (fX10_closed n y13.2).bind fun y15 => if wr y15.1 = 0 then some (0, y15.2) else some (1, y15.2) : Option (Int × qMu)).bind fun y12 => (lp (fun x : Int × qMu => bX10_parse_86 n x.1 x.2) n (y12.1, y12.2)).bind fun y24 => (qbl y24.1).bind fun x25 => some (x25, y24.2)) := by
      unfold fX10_parse
      rw [qPf_eq, obs, qPf_eq, obs, qPf_eq, obs, qPf_eq, obs, qPf_eq, obs, ← hμ5, z1, obs, qSa_in (by omega), obs, ← hμ0, a1, obs]
    rw [er0]
    obtain ⟨m, hm⟩ : ∃ m, n = m + 1 := ⟨n - 1, by omega⟩
    by_cases c0 : tkK b e (tkS b e 0) = 0
    · have e1 : ptx b e = .inr (1, 0, zc, zc) := if_pos c0
      rw [e1]
      have k3' : rd μ1 78 12 = 0 := k3.trans (hkr.2.2.2.2.mpr c0)
      have eb : bX10_parse_86 n 1 μ1 = some (.inr (1, μ1)) := by
        simp (disch := omega) only [ite_true, bX10_parse_86, k3', wr_id, if_pos, if_neg]
      have el : lp (fun x : Int × qMu => bX10_parse_86 n x.1 x.2) n (1, μ1) = some (1, μ1) := by
        have : lp (fun x : Int × qMu => bX10_parse_86 n x.1 x.2) (m + 1) (1, μ1) = some (1, μ1) := by
          rw [lp_s]
          dsimp only
          rw [eb]
          rfl
        rw [← hm] at this
        exact this
      refine ⟨μ1, f1, Or.inr ⟨_, rfl, ?_, hP.2.2.1, hP.2.2.2⟩⟩
      rw [k3', if_pos (show wr 0 = 0 from rfl), obs]
      dsimp only
      rw [el]
      rfl
    · have e1 : ptx b e = pbd (pcl b e (ps1 b e (tkS b e 0))) fun x => pall b e 401 (nx b e x.1) x.2 := if_neg c0
      rw [e1]
      have k4 : ¬ kr (tkK b e (tkS b e 0)) = 0 := fun q => c0 (hkr.2.2.2.2.mp q)
      rw [k3, wr_id (by omega) (by omega), if_neg k4]
      have h8 := qsl_8
      obtain ⟨r1, w1, w2⟩ := m_isWord hn hP.1 hb (s := tkS b e 0) (by omega) a2 h8.2.2.2.2.2.1
      obtain ⟨r2, w3, w4⟩ := m_isWord hn hP.1 hb (s := tkS b e 0) (by omega) a2 h8.2.2.2.2.2.2.1
      rw [isW_5] at w2
      rw [isW_6] at w4
      have hO : MO (ps1 b e (tkS b e 0)) b e μ1 (fX10_firstStatement n μ1) := by
        unfold ps1
        rcases w2 with ⟨rfl, w2⟩ | ⟨rfl, w2⟩
        · rw [if_pos w2]
          have ef : fX10_firstStatement n μ1 = (fX10_verticesStatement n μ1).bind fun y => (qbl y.1).bind fun x => some (x, y.2) := by
            simp (disch := omega) only [ite_true, fX10_firstStatement, w1, wr_id, if_neg, Option.bind_some]
          rw [ef]
          exact (m_ver hn hb (by omega) hP).ret
        · rw [if_neg w2]
          rcases w4 with ⟨rfl, w4⟩ | ⟨rfl, w4⟩
          · rw [if_pos w4]
            have ef : fX10_firstStatement n μ1 = (fX10_degreesStatement n μ1).bind fun y => (qbl y.1).bind fun x => some (x, y.2) := by
              simp (disch := omega) only [ite_true, fX10_firstStatement, w1, w3, wr_id, if_neg, if_pos, Option.bind_some]
            rw [ef]
            exact (m_deg hn hb (by omega) hP).ret
          · rw [if_neg w4]
            obtain ⟨μ2, m1, m2, m3⟩ := m_fail a2 (by omega) (w := 2) (by omega)
            refine MO.fail (m3.fm (by decide)) (p := er b e (tkS b e 0) 2) rfl ?_ m2
            simp (disch := omega) only [ite_true, fX10_firstStatement, w1, w3, m1, wr_id, if_neg, if_pos, Option.bind_some]
            rfl
      have hO2 := m_close hn hb hO
      generalize ((fX10_firstStatement n μ1).bind fun y => if wr y.1 = 0 then some (0, y.2) else (fX10_closed n y.2).bind fun z => if wr z.1 = 0 then some (0, z.2) else some (1, z.2)) = R at hO2
      obtain ⟨μ2, f2, ⟨p, d1, d2, d3⟩ | ⟨s1, st1, d1, d2, d3⟩⟩ := hO2
      · rw [d2, d1, obs]
        refine ⟨μ2, f1.tr f2, Or.inl ⟨p, rfl, ?_, d3⟩⟩
        have el : lp (fun x : Int × qMu => bX10_parse_86 n x.1 x.2) n (0, μ2) = some (0, μ2) := by
          have : lp (fun x : Int × qMu => bX10_parse_86 n x.1 x.2) (m + 1) (0, μ2) = some (0, μ2) := by
            rw [lp_s]
            have e2 : bX10_parse_86 n 0 μ2 = some (.inr (0, μ2)) := by
              simp (disch := omega) only [ite_true, bX10_parse_86, wr_id, if_pos]
            dsimp only
            rw [e2]
            rfl
          rw [← hm] at this
          exact this
        dsimp only
        rw [el]
        rfl
      · obtain ⟨g1, g2, g3⟩ := ps1_ok (by omega) d1
        have g4 := nx_r (b := b) (e := e) (s := s1) (by omega)
        rw [d2, d1, obs]
        obtain ⟨μ3, f3, h3⟩ := m_rest hn hb 401 n (nx b e s1) st1 μ2 g4.1 (by omega) (by omega) d3 g3
        refine ⟨μ3, (f1.tr f2).tr f3, ?_⟩
        dsimp only
        rcases h3 with ⟨p, i1, i2, i3⟩ | ⟨st, i1, i2, i3⟩
        · rw [i2]
          exact Or.inl ⟨p, i1, rfl, i3⟩
        · rw [i2]
          exact Or.inr ⟨st, i1, rfl, i3⟩
  obtain ⟨μ2, f2, h2⟩ := hR
  refine ⟨μ2, ?_, fun i i1 i2 => ?_, ?_, h2⟩
  · exact (fun a ha => (f2.1 a ha).trans ((f0 a (fun q => ha (by revert q; simp; omega))).trans (f5.1 a (fun q => ha (by rw [q]; decide)))))
  · rw [f2.2 i (by omega), rd_cg (f0 78 (by decide)), f5.2 i (by simp; omega)]
  · rw [f2.2 6 (by omega), rd_cg (f0 78 (by decide))]
    exact e6
end LOD
