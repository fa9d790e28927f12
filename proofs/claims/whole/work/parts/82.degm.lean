/-! DEGREES of the text, in the reference -/
section DGM
variable {μ : qMu} {n : Nat} {b : Int → Int} {e s : Int}
theorem m_told {ξ : qMu} {i : Nat} {z v : Int} (hi : i < 8) (h16 : rd ξ 78 16 = v) : qSa ξ 83 8 (i : Int) (rd ξ 78 16) = some (up ξ 83 (i : Int) v) ∧ rd (up ξ 83 (i : Int) v) 78 16 = v ∧ z + rd (up ξ 83 (i : Int) v) 78 16 = z + v := by
  have e1 : rd (up ξ 83 (i : Int) v) 78 16 = v := (rd_na (by decide)).trans h16
  refine ⟨?_, e1, by rw [e1]⟩
  rw [h16]
  exact qSa_in (by omega)
theorem m_degs (hn : 5000 ≤ n) (hb : TB b e) (hs : 0 ≤ s ∧ s ≤ e) {st : qEn} : ∀ (k i m : Nat) (ξ : qMu), i + k = 9 → i ≤ 8 → k < m → PM ξ b e (tki b e s i) st → LK ξ 83 (i : Int) (dgt b e s) → ∃ ξ', FM ξ ξ' ∧ ((∃ p, pdg b e s k i = .inl p ∧ lp (fun x : Int × Int × qMu => bX10_degreesStatement_9 n x.1 x.2.1 x.2.2) m ((i : Int), rs (dgt b e s) 0 (i : Int), ξ) = some (.inr (0, ξ')) ∧ ME ξ' p) ∨ ∃ N : Nat, (1 ≤ N ∧ N ≤ 8) ∧ pdg b e s k i = .inr N ∧ lp (fun x : Int × Int × qMu => bX10_degreesStatement_9 n x.1 x.2.1 x.2.2) m ((i : Int), rs (dgt b e s) 0 (i : Int), ξ) = some (.inl ((N : Int), rs (dgt b e s) 0 (N : Int), ξ')) ∧ PM ξ' b e (tki b e s N) st ∧ LK ξ' 83 (N : Int) (dgt b e s)) := by
  intro k
  induction k with
  | zero => intro i m ξ h1 h2; omega
  | succ k ih =>
    intro i m ξ hik hi8 hm hP hL
    obtain ⟨m, rfl⟩ : ∃ m', m = m' + 1 := ⟨m - 1, by omega⟩
    have h1 := hb.1
    have hr := tki_r (b := b) hs i
    have k3 := hP.2.1.2.2.1
    have hkr := kr_4 b e (tki b e s i)
    have hK := hP.2.1
    by_cases hc : i = 0 ∨ tkK b e (tki b e s i) = 2
    · have epd : pdg b e s (k + 1) i = pbd (pnum b e (tki b e s i) 0 32) (fun _ => if i = 8 then .inl (er b e (tki b e s i) 5) else pdg b e s k (i + 1)) := if_pos hc
      by_cases c2 : tkK b e (tki b e s i) = 2
      · have k3' : rd ξ 78 12 = 3 := k3.trans (hkr.2.2.1.mpr c2)
        have k4 := hK.2.2.2 c2
        have hv := tkV_r hb hr c2
        have ei := m_isIn (μ := ξ) (x := tkV b e (tki b e s i)) (lo := 0) (hi := 32) (by omega) (by omega) (by omega)
        rcases m_number hn hP.1 hb hr hK (lo := 0) (hi := 32) (by omega) (by omega) with ⟨p, μ2, b1, b2, b3, b4⟩ | ⟨μ2, b1, b2, b3, b4, b5, b6⟩
        · have c4 : tkV b e (tki b e s i) < 0 ∨ 32 < tkV b e (tki b e s i) := by
            apply Decidable.byContradiction
            intro q
            unfold pnum at b1
            rw [if_pos c2, if_neg q] at b1
            cases b1
          rw [if_pos c4] at ei
          refine ⟨μ2, b4.fm (by decide), Or.inl ⟨p, by rw [epd, b1]; rfl, ?_, b3⟩⟩
          have eb : ∀ z, bX10_degreesStatement_9 n (i : Int) z ξ = some (.inr (.inr (0, μ2))) := fun z => by
            by_cases h0 : (i : Int) = 0
            · rw [h0]
              simp (disch := omega) only [ite_true, bX10_degreesStatement_9, k3', k4, ei, wr_id, if_pos, b2, Option.bind_some]
            · simp (disch := omega) only [ite_true, bX10_degreesStatement_9, k3', k4, ei, wr_id, if_pos, if_neg, b2, Option.bind_some]
          rw [lp_s, eb]
          rfl
        · have c4 : ¬ (tkV b e (tki b e s i) < 0 ∨ 32 < tkV b e (tki b e s i)) := by omega
          rw [if_neg c4] at ei
          by_cases h8 : i = 8
          · obtain ⟨μ3, d1, d2, d3⟩ := m_fail hK (by omega) (w := 5) (by omega)
            refine ⟨μ3, d3.fm (by decide), Or.inl ⟨er b e (tki b e s i) 5, by rw [epd, b1]; exact if_pos h8, ?_, d2⟩⟩
            have eb : ∀ z, bX10_degreesStatement_9 n (i : Int) z ξ = some (.inr (.inr (0, μ3))) := fun z => by
              simp (disch := omega) only [ite_true, bX10_degreesStatement_9, k3', k4, ei, wr_id, if_pos, if_neg, d1, Option.bind_some]
              rfl
            rw [lp_s, eb]
            rfl
          · have ed : dgt b e s (i : Int) = tkV b e (tki b e s i) := dgt_at b2 ⟨rfl, rfl⟩
            have es : rs (dgt b e s) 0 (i : Int) + tkV b e (tki b e s i) = rs (dgt b e s) 0 ((i + 1 : Nat) : Int) := by
              rw [show ((i + 1 : Nat) : Int) = (i : Int) + 1 by omega, rs_last (by omega), ed]
            obtain ⟨t1, t2, t3⟩ := m_told (ξ := μ2) (i := i) (z := rs (dgt b e s) 0 (i : Int)) (by omega) b4
            have d4 : Fr [83] μ2 (up μ2 83 (i : Int) (tkV b e (tki b e s i))) := Fr.up (by simp)
            have f2 : FM ξ (up μ2 83 (i : Int) (tkV b e (tki b e s i))) := (b6.fm (by decide)).tr (d4.fm (by decide))
            have p2 := hP.ad b5 b6 (by decide)
            have p3 : PM (up μ2 83 (i : Int) (tkV b e (tki b e s i))) b e (tki b e s (i + 1)) st := ⟨hP.1.fm f2, b5.kp (d4 78 (by decide)), p2.2.2.1.kp (d4 79 (by decide)), p2.2.2.2.kp (d4 78 (by decide))⟩
            have l3 : LK (up μ2 83 (i : Int) (tkV b e (tki b e s i))) 83 ((i + 1 : Nat) : Int) (dgt b e s) := fun j j1 j2 => by
              by_cases q : j = (i : Int)
              · rw [q, rd_at, ed]
                exact wr_id (by omega) (by omega)
              · rw [rd_ni q, rd_cg (b6.1 83 (by decide))]
                exact hL j j1 (by omega)
            have eb : bX10_degreesStatement_9 n (i : Int) (rs (dgt b e s) 0 (i : Int)) ξ = some (.inl ((i : Int) + 1, rs (dgt b e s) 0 (i : Int) + tkV b e (tki b e s i), up μ2 83 (i : Int) (tkV b e (tki b e s i)))) := by
              by_cases h0 : (i : Int) = 0
              · rw [h0] at t1 t2 t3 ⊢
                simp (disch := omega) only [ite_true, bX10_degreesStatement_9, k3', k4, ei, wr_id, if_pos, if_neg, b3, t1, t2, Option.bind_some]
              · simp (disch := omega) only [ite_true, bX10_degreesStatement_9, k3', k4, ei, wr_id, if_pos, if_neg, b3, t1, t2, Option.bind_some]
            obtain ⟨ξ', j1, j2⟩ := ih (i + 1) m _ (by omega) (by omega) (by omega) p3 l3
            have epd' : pdg b e s (k + 1) i = pdg b e s k (i + 1) := by
              rw [epd, b1]
              exact if_neg h8
            have elp : lp (fun x : Int × Int × qMu => bX10_degreesStatement_9 n x.1 x.2.1 x.2.2) (m + 1) ((i : Int), rs (dgt b e s) 0 (i : Int), ξ) = lp (fun x : Int × Int × qMu => bX10_degreesStatement_9 n x.1 x.2.1 x.2.2) m (((i + 1 : Nat) : Int), rs (dgt b e s) 0 ((i + 1 : Nat) : Int), up μ2 83 (i : Int) (tkV b e (tki b e s i))) := by
              rw [lp_s]
              dsimp only
              rw [eb, obs, es]
              rfl
            rw [epd', elp]
            exact ⟨ξ', f2.tr j1, j2⟩
      · have h0 : i = 0 := by
          rcases hc with hc | hc
          · exact hc
          · exact absurd hc c2
        have c3 : ¬ kr (tkK b e (tki b e s i)) = 3 := fun q => c2 (hkr.2.2.1.mp q)
        rcases m_number hn hP.1 hb hr hK (lo := 0) (hi := 32) (by omega) (by omega) with ⟨p, μ2, b1, b2, b3, b4⟩ | ⟨μ2, b1, b2, b3, b4, b5, b6⟩
        · refine ⟨μ2, b4.fm (by decide), Or.inl ⟨p, by rw [epd, b1]; rfl, ?_, b3⟩⟩
          have eb : ∀ z, bX10_degreesStatement_9 n (i : Int) z ξ = some (.inr (.inr (0, μ2))) := fun z => by
            have h0' : (i : Int) = 0 := by omega
            rw [h0']
            simp (disch := omega) only [ite_true, bX10_degreesStatement_9, k3, wr_id, if_pos, if_neg, b2, Option.bind_some]
          rw [lp_s, eb]
          rfl
        · exfalso
          unfold pnum at b1
          rw [if_neg c2] at b1
          cases b1
    · have epd : pdg b e s (k + 1) i = .inr i := if_neg hc
      have h0 : ¬ i = 0 := fun q => hc (Or.inl q)
      have c2 : ¬ kr (tkK b e (tki b e s i)) = 3 := fun q => hc (Or.inr (hkr.2.2.1.mp q))
      have eb : ∀ z, bX10_degreesStatement_9 n (i : Int) z ξ = some (.inr (.inl ((i : Int), z, ξ))) := fun z => by
        simp (disch := omega) only [ite_true, bX10_degreesStatement_9, k3, wr_id, if_neg]
      refine ⟨ξ, FM.rf _, Or.inr ⟨i, by omega, epd, ?_, hP, hL⟩⟩
      rw [lp_s, eb]
      rfl
theorem m_copyD {N : Nat} {d : Int → Int} (hn : 5000 ≤ n) (hN : N ≤ 8) (hL : LK μ 83 (N : Int) d) : ∃ μ', lp (fun x : Int × qMu => bX10_degreesStatement_125 n (N : Int) x.1 x.2) n (0, μ) = some μ' ∧ LK μ' 87 (N : Int) d ∧ Fr [87] μ μ' := by
  obtain ⟨y, r1, r2, r3⟩ := lp_inv (f := fun x : Int × qMu => bX10_degreesStatement_125 n (N : Int) x.1 x.2) (fun k x => (x.1 = (N : Int) - (k : Int) ∧ 0 ≤ x.1) ∧ LK x.2 87 x.1 d ∧ Fr [87] μ x.2) (fun y => LK y 87 (N : Int) d ∧ Fr [87] μ y) (by
    rintro k ⟨i, ξ⟩ ⟨⟨h4, h5⟩, h6, h7⟩
    dsimp only at h4 h5 h6 h7
    by_cases hi : i < (N : Int)
    · right
      have e1 : rd ξ 83 i = d i := (rd_cg (h7 83 (by decide)) i).trans (hL i h5 hi)
      refine ⟨k - 1, (i + 1, up ξ 87 i (d i)), ?_, by omega, ⟨by dsimp only; omega, by dsimp only; omega⟩, fun j j1 j2 => ?_, h7.tr (Fr.up (by simp))⟩
      · simp (disch := omega) only [ite_true, bX10_degreesStatement_125, wr_id, if_pos, qLd_in, e1, qSa_in, Option.bind_some]
      · dsimp only at j2 ⊢
        by_cases e : j = i
        · rw [e, rd_at, ← e1, wr_rd]
        · rw [rd_ni e]
          exact h6 j j1 (by omega)
    · left
      have hiN : i = (N : Int) := by omega
      subst hiN
      refine ⟨ξ, ?_, h6, h7⟩
      simp (disch := omega) only [ite_true, bX10_degreesStatement_125, wr_id, if_neg]) n N (0, μ) ⟨⟨by dsimp only; omega, Int.le_refl _⟩, fun j j1 j2 => by dsimp only at j2; omega, Fr.rf _ _⟩ (by omega)
  exact ⟨y, r1, r2, r3⟩
theorem m_deg (hn : 5000 ≤ n) (hb : TB b e) (hs : 0 ≤ s ∧ s ≤ e) (hP : PM μ b e s (1, 0, zc, zc)) : MO (pdeg b e s) b e μ (fX10_degreesStatement n μ) := by
  have h1 := hb.1
  obtain ⟨μ1, a1, a2, a3⟩ := m_adv hn hb hP.1 hs hP.2.1
  have p1 := hP.ad a2 a3 (by decide)
  have f1 : FM μ μ1 := a3.fm (by decide)
  obtain ⟨μ3, d0, d⟩ := m_degs hn hb hs 9 0 n μ1 rfl (by omega) (by omega) p1 (fun j j1 j2 => by omega)
  have f3 : FM μ μ3 := f1.tr d0
  rcases d with ⟨p, d1, d2, d3⟩ | ⟨N, hN, d1, d2, dP, dL⟩
  · refine MO.fail f3 (p := p) ?_ ?_ d3
    · simp only [pdeg, d1, pbd]
    · have d2' : lp (fun x : Int × Int × qMu => bX10_degreesStatement_9 n x.1 x.2.1 x.2.2) n (0, 0, μ1) = some (.inr (0, μ3)) := d2
      simp only [fX10_degreesStatement, a1, d2', Option.bind_some, Sum.elim_inr]
  · have d2' : lp (fun x : Int × Int × qMu => bX10_degreesStatement_9 n x.1 x.2.1 x.2.2) n (0, 0, μ1) = some (.inl ((N : Int), rs (dgt b e s) 0 (N : Int), μ3)) := d2
    have hr := tki_r (b := b) hs N
    have hsum := dgt_s b e s hN.2
    have k3 := dP.2.1.2.2.1
    have hkr := kr_4 b e (tki b e s N)
    have di := (dv2 (k := rs (dgt b e s) 0 (N : Int)) (by omega)).2
    by_cases c2 : tkK b e (tki b e s N) = 3 ∧ (rs (dgt b e s) 0 (N : Int) % 2 = 1 ∨ 32 < rs (dgt b e s) 0 (N : Int))
    · have k3' : rd μ3 78 12 = 4 := k3.trans (hkr.2.2.2.1.mpr c2.1)
      obtain ⟨μ4, m1, m2, m3⟩ := m_fail dP.2.1 (by omega) (w := 4) (by omega)
      refine MO.fail (f3.tr (m3.fm (by decide))) (p := er b e (tki b e s N) 4) ?_ ?_ m2
      · simp only [pdeg, d1, pbd, if_pos c2]
      · by_cases c3 : rs (dgt b e s) 0 (N : Int) % 2 = 1
        · simp (disch := omega) only [ite_true, fX10_degreesStatement, a1, d2', k3', di, m1, Option.bind_some, Sum.elim_inl, wr_id, if_pos]
          rfl
        · have c4 := c2.2
          simp (disch := omega) only [ite_true, fX10_degreesStatement, a1, d2', k3', di, m1, Option.bind_some, Sum.elim_inl, wr_id, if_neg, if_pos]
          rfl
    · have e79 : Fr [79] μ3 (up μ3 79 0 (N : Int)) := Fr.up (by simp)
      obtain ⟨μ5, g1, g2, g3⟩ := m_copyD (μ := up μ3 79 0 (N : Int)) (N := N) hn hN.2 (d := dgt b e s) (fun j j1 j2 => (rd_cg (e79 83 (by decide)) j).trans (dL j j1 j2))
      obtain ⟨μ6, i1, i2, i3⟩ := m_byLoops (μ := μ5) (N := N) (m := 0) (t := zc) (l := dgt b e s) hn (by omega) (fun i => by have := dgt_r b e s i; omega) ⟨by
        rw [rd_cg (g3 79 (by decide)), rd_at]
        exact wr_id (by omega) (by omega), by
        rw [rd_cg (g3 79 (by decide)), rd_ni (by decide)]
        exact dP.2.2.1.2.1, fun u v hu hv => by
        rw [rd_cg (g3 79 (by decide)), rd_ni (by omega)]
        exact dP.2.2.1.2.2.2 u v hu hv⟩ (fun u v => by show -1000 ≤ (0 : Int) ∧ (0 : Int) ≤ 1000; omega) g2
      have fr : Fr [79, 87] μ3 μ6 := ((e79.wk (by simp)).tr (g3.wk (by simp))).tr (i3.wk (by simp))
      have f6 : FM μ μ6 := f3.tr (fr.fm (by decide))
      refine ⟨μ6, f6, Or.inr ⟨tki b e s N, ((N : Int), 0, (b0 (dgt b e s) N).2, zc), ?_, hr, ?_, hP.1.fm f6, dP.2.1.kp (fr 78 (by decide)), i2, dP.2.2.2.kp (fr 78 (by decide))⟩⟩
      · simp only [pdeg, d1, pbd, if_neg c2]
      · by_cases c5 : tkK b e (tki b e s N) = 3
        · have k3' : rd μ3 78 12 = 4 := k3.trans (hkr.2.2.2.1.mpr c5)
          have c6 : ¬ (rs (dgt b e s) 0 (N : Int) % 2 = 1 ∨ 32 < rs (dgt b e s) 0 (N : Int)) := fun q => c2 ⟨c5, q⟩
          simp (disch := omega) only [ite_true, fX10_degreesStatement, a1, d2', k3', di, qSa_in, g1, i1, Option.bind_some, Sum.elim_inl, wr_id, if_neg, if_pos]
        · have c7 : ¬ kr (tkK b e (tki b e s N)) = 4 := fun q => c5 (hkr.2.2.2.1.mp q)
          simp (disch := omega) only [ite_true, fX10_degreesStatement, a1, d2', k3, qSa_in, g1, i1, Option.bind_some, Sum.elim_inl, wr_id, if_neg]
end DGM
