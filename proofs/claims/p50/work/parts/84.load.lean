/-! THE TEXT READ, in both -/
section LOD
variable {μ : qMu} {n : Nat} {b : Int → Int} {e F : Int}
theorem x_text (hn : 5000 ≤ n) (hb : TB b e) (hF : rd μ 1 5 = F) (he : e ≤ F ∧ F ≤ 400) (hx : ∀ i, 0 ≤ i → i < e → ian (rd μ 2 i) 255 = b i) : ∃ μ', Fr [1, 3, 4, 5, 6, 7, 8, 9, 10] μ μ' ∧ rd μ' 1 5 = 0 ∧ ((∃ p, ptx b e = .inl p ∧ fX5_readText n e μ = some (0, μ') ∧ XE μ' p) ∨ ∃ st, ptx b e = .inr st ∧ fX5_readText n e μ = some (1, μ') ∧ GY μ' 3 st.1 st.2.2.1 ∧ GY μ' 5 st.1 st.2.2.2 ∧ rd μ' 1 4 = st.2.1 ∧ XE μ' (0, -1)) := by
  have h1 := hb.1
  have emn : mn e (rd μ 1 5) = e := by
    rw [hF, mn_id (by omega) (by omega)]
    split <;> omega
  obtain ⟨μ0, hμ0⟩ : ∃ μ0, μ0 = up (up (up (up (up (up μ 1 6 e) 1 5 0) 1 11 0) 1 4 0) 1 7 0) 1 8 (-1) := ⟨_, rfl⟩
  have e6 : rd μ0 1 6 = e := by
    rw [hμ0, rd_ni (by decide), rd_ni (by decide), rd_ni (by decide), rd_ni (by decide), rd_ni (by decide), rd_at]
    exact wr_id (by omega) (by omega)
  have e5 : rd μ0 1 5 = 0 := by
    rw [hμ0, rd_ni (by decide), rd_ni (by decide), rd_ni (by decide), rd_ni (by decide), rd_at]
    rfl
  have e11 : rd μ0 1 11 = 0 := by
    rw [hμ0, rd_ni (by decide), rd_ni (by decide), rd_ni (by decide), rd_at]
    rfl
  have e4 : rd μ0 1 4 = 0 := by
    rw [hμ0, rd_ni (by decide), rd_ni (by decide), rd_at]
    rfl
  have eX : XE μ0 (0, -1) := ⟨by rw [hμ0, rd_ni (by decide), rd_at]; rfl, by rw [hμ0, rd_at]; rfl⟩
  have f0 : Fr [1] μ μ0 := by
    rw [hμ0]
    exact (((((Fr.up (by simp)).tr (Fr.up (by simp))).tr (Fr.up (by simp))).tr (Fr.up (by simp))).tr (Fr.up (by simp))).tr (Fr.up (by simp))
  have hT : TX μ0 b e := ⟨e6, fun i i1 i2 => by rw [rd_cg (f0 2 (by decide))]; exact hx i i1 i2⟩
  have hs := tkS_r (b := b) (e := e) (p := 0) (by omega)
  obtain ⟨μ1, a1, a2, a3⟩ := x_advance hn hT hb (p := 0) (by omega) e11
  have f1 : FX μ0 μ1 := a3.fx (by decide) (by decide)
  have k3 := a2.2.2.1
  have hkr := tkK_r b e (tkS b e 0)
  have e4' : rd μ1 1 4 = 0 := (a3.2 4 (by decide)).trans e4
  have eX' : XE μ1 (0, -1) := eX.kf a3 (by decide)
  have er0 : fX5_readText n e μ = (fX5_readFirst n μ1).bind fun y8 => (lp (fun x : Int × Int × qMu => bX5_readText_48 n x.1 x.2.1 x.2.2) n (y8.1, 0, y8.2)).bind fun y17 => (qbl y17.1).bind fun x18 => some (x18, y17.2) := by
    unfold fX5_readText
    rw [emn, qPf_eq, obs, qPf_eq, obs, qPf_eq, obs, qPf_eq, obs, qPf_eq, obs, qPf_eq, obs, ← hμ0, a1, obs]
  have hR : XR (ptx b e) μ0 ((fX5_readFirst n μ1).bind fun y8 => lp (fun x : Int × Int × qMu => bX5_readText_48 n x.1 x.2.1 x.2.2) n (y8.1, 0, y8.2)) := by
    obtain ⟨m, rfl⟩ : ∃ m, n = m + 1 := ⟨n - 1, by omega⟩
    by_cases c0 : tkK b e (tkS b e 0) = 0
    · have e1 : ptx b e = .inr (1, 0, zc, zc) := if_pos c0
      rw [c0] at k3
      obtain ⟨μ2, b1, b2, b3, b4⟩ := x_begin (μ := μ1) hn (v := 1) (by omega)
      have ef : fX5_readFirst (m + 1) μ1 = some (1, μ2) := by
        simp (disch := omega) only [ite_true, fX5_readFirst, k3, b1, wr_id, if_pos, Option.bind_some]
      rw [e1, ef, obs]
      refine ⟨μ2, f1.tr (b4.fx (by decide)), Or.inr ⟨_, rfl, x_stop0 ((rd_cg (b4 1 (by decide)) 9).trans k3), b2, b3, (rd_cg (b4 1 (by decide)) 4).trans e4', eX'.kp (b4 1 (by decide))⟩⟩
    · have e1 : ptx b e = pbd (pcl b e (ps1 b e (tkS b e 0))) fun x => pall b e 401 (nx b e x.1) x.2 := if_neg c0
      rw [e1]
      have h8 := qsl_8
      obtain ⟨r1, w1, w2⟩ := x_isWord hn (hT.fx f1) hb (s := tkS b e 0) (by omega) a2 h8.1
      obtain ⟨r2, w3, w4⟩ := x_isWord hn (hT.fx f1) hb (s := tkS b e 0) (by omega) a2 h8.2.1
      have hO : XO (pcl b e (ps1 b e (tkS b e 0))) b e μ1 (fX5_readFirst (m + 1) μ1) := by
        unfold ps1
        rcases w2 with ⟨rfl, w2⟩ | ⟨rfl, w2⟩
        · rw [if_pos w2]
          have ef : fX5_readFirst (m + 1) μ1 = (fX5_readVertices (m + 1) μ1).bind fun y => (qbl y.1).bind fun x => some (x, y.2) := by
            simp (disch := omega) only [ite_true, fX5_readFirst, k3, w1, wr_id, if_neg, Option.bind_some]
          rw [ef]
          exact (x_ver hn hb (hT.fx f1) (by omega) a2 e4' eX').ret
        · rw [if_neg w2]
          rcases w4 with ⟨rfl, w4⟩ | ⟨rfl, w4⟩
          · rw [if_pos w4]
            have ef : fX5_readFirst (m + 1) μ1 = (fX5_readDegrees (m + 1) μ1).bind fun y => (qbl y.1).bind fun x => some (x, y.2) := by
              simp (disch := omega) only [ite_true, fX5_readFirst, k3, w1, w3, wr_id, if_neg, if_pos, Option.bind_some]
            rw [ef]
            exact (x_deg hn hb (hT.fx f1) (by omega) a2 e4' eX').ret
          · rw [if_neg w4]
            obtain ⟨μ2, m1, m2, m3⟩ := x_fail a2 (by omega) (w := 2) (by omega)
            refine XO.fail (m3.fx (by decide) (by decide)) (p := er b e (tkS b e 0) 2) rfl ?_ m2
            simp (disch := omega) only [ite_true, fX5_readFirst, k3, w1, w3, m1, wr_id, if_neg, if_pos, Option.bind_some]
            rfl
      obtain ⟨μ2, f2, ⟨p, d1, d2, d3⟩ | ⟨s1, st1, d1, d2, d3⟩⟩ := hO
      · rw [d2, d1, obs]
        exact ⟨μ2, f1.tr f2, Or.inl ⟨p, rfl, x_stop, d3⟩⟩
      · obtain ⟨g1, g2, g3⟩ := ps1_ok (by omega) d1
        have g4 := nx_r (b := b) (e := e) (s := s1) (by omega)
        rw [d2, d1, obs]
        exact XR.tr (f1.tr f2) (x_rest hn hb 401 (m + 1) s1 st1 0 μ2 (by omega) (by omega) (by omega) d3 g3 g2 (by omega))
  obtain ⟨μ2, f2, ⟨p, d1, d2, d3⟩ | ⟨st, d1, d2, d3⟩⟩ := hR
  · refine ⟨μ2, (f0.wk (by simp)).tr f2.1, f2.2.1.trans e5, Or.inl ⟨p, d1, ?_, d3⟩⟩
    rw [er0, ← Option.bind_assoc, d2]
    rfl
  · refine ⟨μ2, (f0.wk (by simp)).tr f2.1, f2.2.1.trans e5, Or.inr ⟨st, d1, ?_, d3⟩⟩
    rw [er0, ← Option.bind_assoc, d2]
    rfl
end LOD
