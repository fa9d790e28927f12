/-! the reference's components, and the counts of both sides -/
/-- how many are not told yet -/
def opn (N : Int) (ν : qMu) : Int := rs (fun v => if rd ν 84 v = -1 then 1 else 0) 0 N
theorem opn_nn (N : Int) (ν : qMu) : 0 ≤ opn N ν := rs_nn (fun k _ _ => by split <;> omega)
theorem opn_le {N : Int} (hN : 0 ≤ N) (ν : qMu) : opn N ν ≤ N := by
  have h1 : opn N ν ≤ rs (fun _ => (1 : Int)) 0 N := rs_le (fun k _ _ => by split <;> omega)
  have h2 : ∀ l : Nat, ∀ a : Int, sl (fun _ => (1 : Int)) a l = (l : Int) := by
    intro l
    induction l with
    | zero => intro a; rfl
    | succ l ih => intro a; unfold sl; rw [ih]; omega
  have h3 : rs (fun _ => (1 : Int)) 0 N = N := by
    unfold rs
    rw [h2]
    omega
  omega
theorem opn_up {N : Int} {ν : qMu} {v x : Int} (hv : 0 ≤ v ∧ v < N) (h : rd ν 84 v = -1) (hx : wr x ≠ -1) : opn N (up ν 84 v x) = opn N ν - 1 := by
  unfold opn
  rw [rs_cut hv.1 (by omega : v ≤ N), rs_step hv.2, rs_cut (f := fun w => if rd ν 84 w = -1 then (1 : Int) else 0) hv.1 (by omega : v ≤ N), rs_step (f := fun w => if rd ν 84 w = -1 then (1 : Int) else 0) hv.2]
  rw [rs_congr (f := fun w => if rd (up ν 84 v x) 84 w = -1 then (1 : Int) else 0) (g := fun w => if rd ν 84 w = -1 then (1 : Int) else 0) (a := 0) (b := v) (fun k h1 h2 => by rw [rd_ni (by omega)]), rs_congr (f := fun w => if rd (up ν 84 v x) 84 w = -1 then (1 : Int) else 0) (g := fun w => if rd ν 84 w = -1 then (1 : Int) else 0) (a := v + 1) (b := N) (fun k h1 h2 => by rw [rd_ni (by omega)])]
  rw [rd_at, if_neg hx, if_pos h]
  omega
section SPR
variable {μ : qMu} {n : Nat} {N m : Int} {c t s : Int → Int}
end SPR
section SPR2
variable {μ : qMu} {n : Nat} {N m : Int} {c t : Int → Int → Int} {s : Int → Int}
/-- what is laid while the component of u0 is spread -/
def Sp (N : Int) (s : Int → Int) (u0 : Int) (ν : qMu) : Prop := rd ν 84 u0 = idx s u0 ∧ ∀ v, (0 ≤ v ∧ v < N) → (s v < u0 → rd ν 84 v = idx s (s v)) ∧ (u0 < s v → rd ν 84 v = -1) ∧ (s v = u0 → rd ν 84 v = idx s u0 ∨ rd ν 84 v = -1)
theorem Sp.is {N u0 : Int} {s : Int → Int} {ν : qMu} (h : Sp N s u0 ν) (h0 : 0 ≤ u0) (hs : ∀ v, (0 ≤ v ∧ v < N) → 0 ≤ s v ∧ s v ≤ v ∧ s (s v) = s v) {v : Int} (hv : 0 ≤ v ∧ v < N) (hq : rd ν 84 v = idx s u0) : s v = u0 := by
  obtain ⟨h1, h2, h3⟩ := h.2 v hv
  have h4 := hs v hv
  have h5 := idx_nn s u0
  by_cases q1 : s v < u0
  · have := idx_lt s h4.1 q1 h4.2.2
    have := h1 q1
    omega
  · by_cases q2 : u0 < s v
    · have := h2 q2
      omega
    · omega
theorem m_spreads (hn : 5000 ≤ n) (h : SM μ N m c t) (hV : Vd N c) (hL : Lab N c s) {u0 : Int} (hu0 : 0 ≤ u0 ∧ u0 < N) (hr : s u0 = u0) (hμ : ∀ v, (0 ≤ v ∧ v < N) → rd μ 84 v = if s v < u0 then idx s (s v) else -1) : ∃ μ', fX10_spreads n u0 (idx s u0) μ = some μ' ∧ Fr [84] μ μ' ∧ ∀ v, (0 ≤ v ∧ v < N) → rd μ' 84 v = if s v < u0 + 1 then idx s (s v) else -1 := by
  have hN := hV.N
  have hp := idx_nn s u0
  have hp2 := idx_le s hu0.1
  generalize hP : idx s u0 = P at *
  have kpS : ∀ ν, Fr [84] μ ν → SM ν N m c t := fun ν hν => h.kp (hν 79 (by decide))
  have e0 : rd μ 84 u0 = -1 := by rw [hμ u0 hu0, hr, if_neg (by omega)]
  have hS1 : Sp N s u0 (up μ 84 u0 P) := by
    refine ⟨by rw [rd_at, hP]; exact wr_id (by omega) (by omega), fun v hv => ?_⟩
    by_cases hvu : v = u0
    · subst hvu
      rw [rd_at, hr, hP]
      exact ⟨fun q => by omega, fun q => by omega, fun _ => Or.inl (wr_id (by omega) (by omega))⟩
    · rw [rd_ni hvu, hμ v hv]
      refine ⟨fun q => by rw [if_pos q], fun q => by rw [if_neg (by omega)], fun q => Or.inr (by rw [if_neg (by omega)])⟩
  -- one row of a pass
  have row : ∀ u, (0 ≤ u ∧ u < N) → ∀ ν z, Fr [84] μ ν → Sp N s u0 ν → (z = 0 ∨ z = 1) → ∃ z' ν', lp (fun x : Int × Int × qMu => bX10_spreads_32 n P u x.1 x.2.1 x.2.2) n (z, 0, ν) = some (z', ν') ∧ Fr [84] μ ν' ∧ Sp N s u0 ν' ∧ (z' = 0 ∨ z' = 1) ∧ ((z' = z ∧ ν' = ν ∧ ∀ v, 0 ≤ v → v < N → rd ν 84 u = P → rd ν 84 v = -1 → ¬ (u ≠ v ∧ 0 < c u v)) ∨ (z' = 1 ∧ opn N ν' < opn N ν)) := by
    intro u hu ν z hν hS hz
    obtain ⟨b, r1, r2⟩ := lp_inv (f := fun x : Int × Int × qMu => bX10_spreads_32 n P u x.1 x.2.1 x.2.2) (fun k x => (x.2.1 = N - (k : Int) ∧ 0 ≤ x.2.1) ∧ Fr [84] μ x.2.2 ∧ Sp N s u0 x.2.2 ∧ (x.1 = 0 ∨ x.1 = 1) ∧ ((x.1 = z ∧ x.2.2 = ν ∧ ∀ v, 0 ≤ v → v < x.2.1 → rd ν 84 u = P → rd ν 84 v = -1 → ¬ (u ≠ v ∧ 0 < c u v)) ∨ (x.1 = 1 ∧ opn N x.2.2 < opn N ν))) (fun y => Fr [84] μ y.2 ∧ Sp N s u0 y.2 ∧ (y.1 = 0 ∨ y.1 = 1) ∧ ((y.1 = z ∧ y.2 = ν ∧ ∀ v, 0 ≤ v → v < N → rd ν 84 u = P → rd ν 84 v = -1 → ¬ (u ≠ v ∧ 0 < c u v)) ∨ (y.1 = 1 ∧ opn N y.2 < opn N ν))) (by
      rintro k ⟨z1, i, ξ⟩ ⟨⟨h4, h5⟩, h6, h7, h8, h9⟩
      dsimp only at h4 h5 h6 h7 h8 h9
      have hSM := kpS ξ h6
      by_cases hi : i < N
      · right
        by_cases c1 : rd ξ 84 u = P
        · by_cases c2 : rd ξ 84 i = -1
          · by_cases c3 : u ≠ i ∧ 0 < c u i
            · have hsu : s u = u0 := h7.is hu0.1 hL.1 hu (by rw [c1, hP])
              have hsi : s i = u0 := by rw [← hL.2.1 u i hu ⟨h5, hi⟩ c3.2, hsu]
              have hne : i ≠ u0 := fun q => by
                have := h7.1
                rw [← q, c2, q] at this
                rw [hP] at this
                omega
              refine ⟨k - 1, (1, i + 1, up ξ 84 i P), ?_, by omega, ⟨by dsimp only; omega, by dsimp only; omega⟩, h6.tr (Fr.up (by simp)), ⟨by dsimp only; rw [rd_ni (fun q => hne q.symm)]; exact h7.1, fun v hv => ?_⟩, Or.inr rfl, ?_⟩
              · simp (disch := omega) only [bX10_spreads_32, hSM.1, wr_id, if_pos, if_neg, qLd_in, qSa_in, Option.bind_some, c1, c2, m_areJoined hSM.2.2.1 hV, ite_true]
              · dsimp only
                by_cases hvi : v = i
                · subst hvi
                  rw [rd_at, hP, wr_id (by omega) (by omega)]
                  exact ⟨fun q => by omega, fun q => by omega, fun _ => Or.inl rfl⟩
                · rw [rd_ni hvi]
                  exact h7.2 v hv
              · right
                dsimp only
                refine ⟨rfl, ?_⟩
                rw [opn_up ⟨h5, hi⟩ c2 (by rw [wr_id (by omega) (by omega)]; omega)]
                rcases h9 with ⟨-, q, -⟩ | ⟨-, q⟩
                · rw [q]; omega
                · omega
            · refine ⟨k - 1, (z1, i + 1, ξ), ?_, by omega, ⟨by dsimp only; omega, by dsimp only; omega⟩, h6, h7, h8, ?_⟩
              · simp (disch := omega) only [bX10_spreads_32, hSM.1, wr_id, if_pos, if_neg, qLd_in, Option.bind_some, c1, c2, m_areJoined hSM.2.2.1 hV, ite_true]
              · refine h9.imp (fun q => ⟨q.1, q.2.1, fun v q1 q2 q3 q4 => ?_⟩) id
                dsimp only at q2
                by_cases hvi : v = i
                · subst hvi
                  exact c3
                · exact q.2.2 v q1 (by omega) q3 q4
          · refine ⟨k - 1, (z1, i + 1, ξ), ?_, by omega, ⟨by dsimp only; omega, by dsimp only; omega⟩, h6, h7, h8, ?_⟩
            · simp (disch := omega) only [bX10_spreads_32, hSM.1, wr_id, wr_rd, if_pos, if_neg, qLd_in, Option.bind_some, c1, ite_true]
            · refine h9.imp (fun q => ⟨q.1, q.2.1, fun v q1 q2 q3 q4 => ?_⟩) id
              dsimp only at q2
              by_cases hvi : v = i
              · subst hvi
                rw [q.2.1] at c2
                exact absurd q4 c2
              · exact q.2.2 v q1 (by omega) q3 q4
        · refine ⟨k - 1, (z1, i + 1, ξ), ?_, by omega, ⟨by dsimp only; omega, by dsimp only; omega⟩, h6, h7, h8, ?_⟩
          · simp (disch := omega) only [bX10_spreads_32, hSM.1, wr_id, wr_rd, if_pos, if_neg, qLd_in, Option.bind_some]
          · refine h9.imp (fun q => ⟨q.1, q.2.1, fun v q1 q2 q3 q4 => ?_⟩) id
            rw [q.2.1] at c1
            exact absurd q3 c1
      · left
        have hiN : i = N := by omega
        subst hiN
        refine ⟨(z1, ξ), ?_, h6, h7, h8, h9⟩
        simp (disch := omega) only [bX10_spreads_32, hSM.1, wr_id, if_neg, qLd_in, Option.bind_some]) n N.toNat (z, 0, ν) ⟨⟨by dsimp only; omega, Int.le_refl _⟩, hν, hS, hz, Or.inl ⟨rfl, rfl, fun v q1 q2 => by dsimp only at q2; omega⟩⟩ (by omega)
    exact ⟨b.1, b.2, r1, r2.1, r2.2.1, r2.2.2.1, r2.2.2.2⟩
  -- a pass
  have pass : ∀ ν, Fr [84] μ ν → Sp N s u0 ν → ∃ z' ν', lp (fun x : Int × Int × qMu => bX10_spreads_18 n P x.1 x.2.1 x.2.2) n (0, 0, ν) = some (z', ν') ∧ Fr [84] μ ν' ∧ Sp N s u0 ν' ∧ ((z' = 0 ∧ ν' = ν ∧ ∀ u v, (0 ≤ u ∧ u < N) → (0 ≤ v ∧ v < N) → rd ν 84 u = P → rd ν 84 v = -1 → ¬ (u ≠ v ∧ 0 < c u v)) ∨ (z' = 1 ∧ opn N ν' < opn N ν)) := by
    intro ν hν hS
    obtain ⟨b, r1, r2⟩ := lp_inv (f := fun x : Int × Int × qMu => bX10_spreads_18 n P x.1 x.2.1 x.2.2) (fun k x => (x.2.1 = N - (k : Int) ∧ 0 ≤ x.2.1) ∧ Fr [84] μ x.2.2 ∧ Sp N s u0 x.2.2 ∧ ((x.1 = 0 ∧ x.2.2 = ν ∧ ∀ u v, (0 ≤ u ∧ u < x.2.1) → (0 ≤ v ∧ v < N) → rd ν 84 u = P → rd ν 84 v = -1 → ¬ (u ≠ v ∧ 0 < c u v)) ∨ (x.1 = 1 ∧ opn N x.2.2 < opn N ν))) (fun y => Fr [84] μ y.2 ∧ Sp N s u0 y.2 ∧ ((y.1 = 0 ∧ y.2 = ν ∧ ∀ u v, (0 ≤ u ∧ u < N) → (0 ≤ v ∧ v < N) → rd ν 84 u = P → rd ν 84 v = -1 → ¬ (u ≠ v ∧ 0 < c u v)) ∨ (y.1 = 1 ∧ opn N y.2 < opn N ν))) (by
      rintro k ⟨z1, i, ξ⟩ ⟨⟨h4, h5⟩, h6, h7, h9⟩
      dsimp only at h4 h5 h6 h7 h9
      have hSM := kpS ξ h6
      by_cases hi : i < N
      · right
        obtain ⟨z2, ξ2, r1, r2, r3, r4, r5⟩ := row i ⟨h5, hi⟩ ξ z1 h6 h7 (h9.elim (fun q => Or.inl q.1) (fun q => Or.inr q.1))
        refine ⟨k - 1, (z2, i + 1, ξ2), ?_, by omega, ⟨by dsimp only; omega, by dsimp only; omega⟩, r2, r3, ?_⟩
        · simp (disch := omega) only [bX10_spreads_18, hSM.1, wr_id, if_pos, qLd_in, Option.bind_some, r1]
        · dsimp only
          rcases r5 with ⟨a1, a2, a3⟩ | ⟨a1, a2⟩
          · subst a2
            rw [a1]
            refine h9.imp (fun q => ⟨q.1, q.2.1, fun u v hu hv q3 q4 => ?_⟩) id
            by_cases hui : u = i
            · subst hui
              rw [q.2.1] at a3
              exact a3 v hv.1 hv.2 q3 q4
            · exact q.2.2 u v (by omega) hv q3 q4
          · right
            refine ⟨a1, ?_⟩
            rcases h9 with ⟨-, q, -⟩ | ⟨-, q⟩
            · rw [q] at a2; exact a2
            · omega
      · left
        have hiN : i = N := by omega
        subst hiN
        refine ⟨(z1, ξ), ?_, h6, h7, h9⟩
        simp (disch := omega) only [bX10_spreads_18, hSM.1, wr_id, if_neg, qLd_in, Option.bind_some]) n N.toNat (0, 0, ν) ⟨⟨by dsimp only; omega, Int.le_refl _⟩, hν, hS, Or.inl ⟨rfl, rfl, fun u v q1 q2 => by dsimp only at q1; omega⟩⟩ (by omega)
    exact ⟨b.1, b.2, r1, r2.1, r2.2.1, r2.2.2⟩
  -- until nothing more is laid
  obtain ⟨b, r1, r2, r3, r4⟩ := lp_inv (f := fun x : Int × qMu => bX10_spreads_9 n P x.1 x.2) (fun k x => Fr [84] μ x.2 ∧ Sp N s u0 x.2 ∧ ((x.1 = 1 ∧ opn N x.2 < (k : Int)) ∨ (x.1 = 0 ∧ ∀ u v, (0 ≤ u ∧ u < N) → (0 ≤ v ∧ v < N) → rd x.2 84 u = P → rd x.2 84 v = -1 → ¬ (u ≠ v ∧ 0 < c u v)))) (fun y => Fr [84] μ y ∧ Sp N s u0 y ∧ ∀ u v, (0 ≤ u ∧ u < N) → (0 ≤ v ∧ v < N) → rd y 84 u = P → rd y 84 v = -1 → ¬ (u ≠ v ∧ 0 < c u v)) (by
    rintro k ⟨z1, ξ⟩ ⟨h6, h7, h9⟩
    dsimp only at h6 h7 h9
    rcases h9 with ⟨rfl, h9⟩ | ⟨rfl, h9⟩
    · right
      have hk := opn_nn N ξ
      obtain ⟨z2, ξ2, r1, r2, r3, r5⟩ := pass ξ h6 h7
      refine ⟨k - 1, (z2, ξ2), ?_, by omega, r2, r3, ?_⟩
      · simp (disch := omega) only [bX10_spreads_9, wr_id, if_neg, Option.bind_some, r1]
      · dsimp only
        rcases r5 with ⟨a1, a2, a3⟩ | ⟨a1, a2⟩
        · right
          subst a2
          exact ⟨a1, a3⟩
        · left
          exact ⟨a1, by omega⟩
    · left
      refine ⟨ξ, ?_, h6, h7, h9⟩
      simp (disch := omega) only [bX10_spreads_9, wr_id, if_pos, ite_true]) n 20 (1, up μ 84 u0 P) ⟨Fr.up (by simp), hS1, Or.inl ⟨rfl, by have := opn_le (N := N) (by omega) (up μ 84 u0 P); dsimp only; omega⟩⟩ (by omega)
  refine ⟨b, ?_, r2, fun v hv => ?_⟩
  · simp (disch := omega) only [fX10_spreads, qSa_in, Option.bind_some, r1]
  · have hsv := r3.2 v hv
    by_cases q1 : s v < u0
    · rw [if_pos (by omega)]
      exact hsv.1 q1
    · by_cases q2 : u0 < s v
      · rw [if_neg (by omega)]
        exact hsv.2.1 q2
      · have q3 : s v = u0 := by omega
        rw [if_pos (by omega), q3]
        -- the laid ones are closed
        have hc : cpt N c (fun w => if rd b 84 w = P then 1 else 0) := by
          intro a d ha hd had
          show (if rd b 84 a = P then (1 : Int) else 0) = if rd b 84 d = P then 1 else 0
          have hsad := hL.2.1 a d ha hd had
          by_cases had2 : a = d
          · rw [had2]
          · by_cases x1 : rd b 84 a = P
            · rw [if_pos x1]
              by_cases x2 : rd b 84 d = P
              · rw [if_pos x2]
              · exfalso
                have y1 : s a = u0 := r3.is hu0.1 hL.1 ha (by rw [x1, hP])
                rcases (r3.2 d hd).2.2 (by omega) with z | z
                · rw [hP] at z; exact x2 z
                · exact r4 a d ha hd x1 z ⟨had2, had⟩
            · rw [if_neg x1]
              by_cases x2 : rd b 84 d = P
              · exfalso
                have y1 : s d = u0 := r3.is hu0.1 hL.1 hd (by rw [x2, hP])
                rcases (r3.2 a ha).2.2 (by omega) with z | z
                · rw [hP] at z; exact x1 z
                · exact r4 d a hd ha x2 z ⟨fun q => had2 q.symm, by rw [hV.2.2.1]; exact had⟩
              · rw [if_neg x2]
        have l1 : (if rd b 84 (s v) = P then (1 : Int) else 0) = if rd b 84 v = P then 1 else 0 := hL.2.2 _ hc v hv
        have l2 := r3.1
        rw [hP] at l2
        rw [q3, if_pos l2] at l1
        by_cases x1 : rd b 84 v = P
        · rw [x1, hP]
        · rw [if_neg x1] at l1
          omega
theorem m_laysParts (hn : 5000 ≤ n) (h : SM μ N m c t) (hV : Vd N c) (hL : Lab N c s) : ∃ μ', fX10_laysParts n μ = some (idx s N, μ') ∧ Fr [84] μ μ' ∧ ∀ v, (0 ≤ v ∧ v < N) → rd μ' 84 v = idx s (s v) := by
  have hN := hV.N
  obtain ⟨μ1, q1, q2⟩ := lp_inv (f := fun x : Int × qMu => bX10_laysParts_2 n x.1 x.2) (fun k x => (x.1 = 8 - (k : Int) ∧ 0 ≤ x.1) ∧ Fr [84] μ x.2 ∧ ∀ i, 0 ≤ i → i < x.1 → rd x.2 84 i = -1) (fun y => Fr [84] μ y ∧ ∀ i, 0 ≤ i → i < 8 → rd y 84 i = -1) (by
    rintro k ⟨i, ν⟩ ⟨⟨h4, h5⟩, h6, h7⟩
    dsimp only at h4 h5 h6 h7
    by_cases hi : i < 8
    · right
      refine ⟨k - 1, (i + 1, up ν 84 i (-1)), ?_, by omega, ⟨by dsimp only; omega, by dsimp only; omega⟩, h6.tr (Fr.up (by simp)), fun j q1 q2 => ?_⟩
      · simp (disch := omega) only [bX10_laysParts_2, wr_id, if_pos, qSa_in, Option.bind_some]
      · dsimp only at q2
        by_cases hj : j = i
        · subst hj
          rw [rd_at]
          exact wr_id (by omega) (by omega)
        · rw [rd_ni hj]
          exact h7 j q1 (by omega)
    · left
      refine ⟨ν, ?_, h6, fun j q1 q2 => h7 j q1 (by omega)⟩
      simp (disch := omega) only [bX10_laysParts_2, wr_id, if_neg]) n 8 (0, μ) ⟨⟨rfl, Int.le_refl _⟩, Fr.rf _ _, fun i q1 q2 => by dsimp only at q2; omega⟩ (by omega)
  obtain ⟨b, r1, r2, r3, r4⟩ := lp_inv (f := fun x : Int × Int × qMu => bX10_laysParts_25 n x.1 x.2.1 x.2.2) (fun k x => (x.2.1 = N - (k : Int) ∧ 0 ≤ x.2.1) ∧ x.1 = idx s x.2.1 ∧ Fr [84] μ x.2.2 ∧ ∀ v, (0 ≤ v ∧ v < N) → rd x.2.2 84 v = if s v < x.2.1 then idx s (s v) else -1) (fun y => y.1 = idx s N ∧ Fr [84] μ y.2 ∧ ∀ v, (0 ≤ v ∧ v < N) → rd y.2 84 v = idx s (s v)) (by
    rintro k ⟨z, i, ν⟩ ⟨⟨h4, h5⟩, h6, h7, h8⟩
    dsimp only at h4 h5 h6 h7 h8
    have hSM : SM ν N m c t := h.kp (h7 79 (by decide))
    by_cases hi : i < N
    · right
      have hsi := hL.1 i ⟨h5, hi⟩
      have e1 := h8 i ⟨h5, hi⟩
      by_cases hr : s i = i
      · rw [hr, if_neg (by omega)] at e1
        obtain ⟨ν', s1, s2, s3⟩ := m_spreads hn hSM hV hL ⟨h5, hi⟩ hr h8
        refine ⟨k - 1, (z + 1, i + 1, ν'), ?_, by omega, ⟨by dsimp only; omega, by dsimp only; omega⟩, ?_, h7.tr s2, s3⟩
        · rw [← h6] at s1
          simp (disch := omega) only [bX10_laysParts_25, hSM.1, wr_id, if_pos, qLd_in, Option.bind_some, e1, s1, ite_true]
        · dsimp only
          rw [idx_s s h5, if_pos hr, h6]
      · have hlt : s i < i := by omega
        rw [if_pos hlt] at e1
        have hnn := idx_nn s (s i)
        have hle := idx_le s hsi.1
        refine ⟨k - 1, (z, i + 1, ν), ?_, by omega, ⟨by dsimp only; omega, by dsimp only; omega⟩, ?_, h7, fun v hv => ?_⟩
        · simp (disch := omega) only [bX10_laysParts_25, hSM.1, wr_id, if_pos, if_neg, qLd_in, Option.bind_some, e1]
        · dsimp only
          rw [idx_s s h5, if_neg hr, h6, Int.add_zero]
        · dsimp only
          rw [h8 v hv]
          by_cases q1 : s v < i
          · rw [if_pos q1, if_pos (by omega)]
          · have q2 : s v ≠ i := fun q => by
              have := (hL.1 v hv).2.2
              rw [q] at this
              exact hr this
            rw [if_neg q1, if_neg (by omega)]
    · left
      have hiN : i = N := by omega
      subst hiN
      refine ⟨(z, ν), ?_, h6, h7, fun v hv => ?_⟩
      · simp (disch := omega) only [bX10_laysParts_25, hSM.1, wr_id, if_neg, qLd_in, Option.bind_some]
      · dsimp only
        rw [h8 v hv, if_pos (by have := hL.1 v hv; omega)]) n N.toNat (0, 0, μ1) ⟨⟨by dsimp only; omega, Int.le_refl _⟩, by dsimp only; unfold idx; rw [rs_end (Int.le_refl _)], q2.1, fun v hv => by
      dsimp only
      rw [if_neg (by have := hL.1 v hv; omega)]
      exact q2.2 v hv.1 (by omega)⟩ (by omega)
  refine ⟨b.2, ?_, r3, r4⟩
  simp only [fX10_laysParts, q1, Option.bind_some, r1, r2]
end SPR2
