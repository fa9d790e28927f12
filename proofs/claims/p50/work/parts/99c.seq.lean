/-! THE LAW'S SEQUENCE: sorted, slack, possible -/
section SQL
variable {μ : qMu} {n a l : Nat} {e : qEn} {d : Int}
theorem Nu.up {μ : qMu} {a l : Nat} {i v : Int} (h : Nu μ a l) : Nu (_root_.Jvm.Pilot.CSwitchGraphsLaw_law_r1578_8989c6.up μ a i v) a l := h.kp (up_ne (by have := h.1; omega)) (Nat.le_of_eq (qJn_cg (up_ne (by have := h.1; omega))).symm)
/-- u is put among the first j, from behind -/
theorem x_insL (hn : 5000 ≤ n) {u : Int} (hu : 0 ≤ u ∧ u < 6) (hd : d = dgs e.2.2.1 u) : ∀ (j : Nat) (ν : qMu) (k : Nat), j < l → j < k → QS ν e → Nu ν a l → (∀ i, 0 ≤ i → i < (j : Int) → 0 ≤ rd ν a i ∧ rd ν a i ≤ 1000) → ∃ p ν', lp (fun x : Int × qMu => bL_isSequence_20 n a u x.1 x.2) k ((j : Int), ν) = some (p, ν') ∧ (0 ≤ p ∧ p ≤ (j : Int)) ∧ QS ν' e ∧ Nu ν' a l ∧ (∀ x, x ≠ a → ν' x = ν x) ∧ ∀ i, rd (up ν' a p d) a i = insf d j (fun i => rd ν a i) i := by
  intro j
  induction j with
  | zero =>
    intro ν k hj hk hQ hA h
    obtain ⟨k', rfl⟩ : ∃ k', k = k' + 1 := ⟨k - 1, by omega⟩
    have hdr := hQ.2.1.1.dg u
    refine ⟨0, ν, ?_, by omega, hQ, hA, fun _ _ => rfl, fun i => ?_⟩
    · rw [lp_s]
      rfl
    · rw [insf_0]
      by_cases hi : i = 0
      · rw [if_pos hi, hi, rd_at]
        exact wr_id (by omega) (by omega)
      · rw [if_neg hi, rd_ni hi]
  | succ j ih =>
    intro ν k hj hk hQ hA h
    obtain ⟨k', rfl⟩ : ∃ k', k = k' + 1 := ⟨k - 1, by omega⟩
    have hdr := hQ.2.1.1.dg u
    have hb := h (j : Int) (by omega) (by omega)
    have hl := hA.2.2.2
    have e0 : ((j + 1 : Nat) : Int) - 1 = (j : Int) := by omega
    have ha := hA.1
    have head : bL_isSequence_20 n a u ((j + 1 : Nat) : Int) ν = if rd ν a (j : Int) < d then some (.inl (((j + 1 : Nat) : Int) + (-1), up ν a ((j + 1 : Nat) : Int) (rd ν a (j : Int)))) else some (.inr (((j + 1 : Nat) : Int), ν)) := by
      unfold bL_isSequence_20
      rw [if_pos (show 0 < wr ((j + 1 : Nat) : Int) by rw [wr_id (by omega) (by omega)]; omega), e0, hA.li (by omega), obs, x_degL hn hQ hu, obs, ← hd, wr_rd, wr_id (x := d) (by omega) (by omega), obs, hA.si (by omega), obs]
    by_cases hc : rd ν a (j : Int) < d
    · have hA1 : Nu (up ν a ((j + 1 : Nat) : Int) (rd ν a (j : Int))) a l := hA.up
      have hQ1 : QS (up ν a ((j + 1 : Nat) : Int) (rd ν a (j : Int))) e := hQ.kp (fun x hx _ => up_ne (by omega))
      obtain ⟨p, ν', r1, r2, r3, r4, r5, r6⟩ := ih (up ν a ((j + 1 : Nat) : Int) (rd ν a (j : Int))) k' (by omega) (by omega) hQ1 hA1 (fun i i1 i2 => by rw [rd_ni (by omega)]; exact h i i1 (by omega))
      refine ⟨p, ν', ?_, by omega, r3, r4, fun x hx => (r5 x hx).trans (up_ne hx), fun i => ?_⟩
      · rw [lp_s]
        dsimp only
        rw [head, if_pos hc, show ((j + 1 : Nat) : Int) + (-1) = (j : Int) by omega]
        exact r1
      · rw [r6 i, insf_s, if_pos hc]
        congr 1
        funext i
        rw [rd_up]
        by_cases hi : i = (j : Int) + 1
        · rw [if_pos ⟨rfl, by omega⟩, if_pos hi, wr_rd]
        · rw [if_neg (by omega), if_neg hi]
    · refine ⟨((j + 1 : Nat) : Int), ν, ?_, by omega, hQ, hA, fun _ _ => rfl, fun i => ?_⟩
      · rw [lp_s]
        dsimp only
        rw [head, if_neg hc]
        rfl
      · rw [insf_s, if_neg hc, rd_up]
        by_cases hi : i = (j : Int) + 1
        · rw [if_pos ⟨rfl, by omega⟩, if_pos hi]
          exact wr_id (by omega) (by omega)
        · rw [if_neg (by omega), if_neg hi]
/-- the row holds the degrees in falling order -/
def SL (ν : qMu) (e : qEn) (a : Nat) : Prop := QS ν e ∧ Nu ν a e.1.toNat ∧ ∀ i, 0 ≤ i → i < e.1 → rd ν a i = srt (dgs e.2.2.1) e.1.toNat i
theorem SL.fc {ν ν' : qMu} (h : SL ν e a) (f : FC ν ν') : SL ν' e a := by
  have ha := h.2.1.1
  have e1 : ν' a = ν a := f a (by simp; omega)
  exact ⟨h.1.fc f, h.2.1.kp (f _ (by simp; omega)) (Nat.le_of_eq (qJn_cg (f _ (by decide))).symm), fun i i1 i2 => (rd_cg e1 i).trans (h.2.2 i i1 i2)⟩
theorem x_srtL (hn : 5000 ≤ n) (hQ : QS μ e) (hA : Nu μ a e.1.toNat) : ∃ μ', lp (fun x : Int × qMu => bL_isSequence_9 n a x.1 x.2) n (0, μ) = some μ' ∧ SL μ' e a ∧ ∀ x, x ≠ a → μ' x = μ x := by
  have hN := hQ.2.2.1
  have hV := hQ.2.1.1
  obtain ⟨b, r1, r2, r3, r4, r5⟩ := lp_inv (f := fun x : Int × qMu => bL_isSequence_9 n a x.1 x.2) (fun k x => ∃ j : Nat, x.1 = (j : Int) ∧ x.1 = e.1 - (k : Int) ∧ QS x.2 e ∧ Nu x.2 a e.1.toNat ∧ (∀ i, 0 ≤ i → i < (j : Int) → rd x.2 a i = srt (dgs e.2.2.1) j i) ∧ ∀ y, y ≠ a → x.2 y = μ y) (fun y => QS y e ∧ Nu y a e.1.toNat ∧ (∀ i, 0 ≤ i → i < e.1 → rd y a i = srt (dgs e.2.2.1) e.1.toNat i) ∧ ∀ z, z ≠ a → y z = μ z) (by
    rintro k ⟨i, ξ⟩ ⟨j, h4, h5, h6, h7, h8, h9⟩
    dsimp only at h4 h5 h6 h7 h8 h9
    subst h4
    by_cases hi : (j : Int) < e.1
    · right
      obtain ⟨p, ν', q1, q2, q3, q4, q5, q6⟩ := x_insL (a := a) (l := e.1.toNat) (d := dgs e.2.2.1 (j : Int)) hn (u := (j : Int)) (by omega) rfl j ξ n (by omega) (by omega) h6 h7 (fun i i1 i2 => by rw [h8 i i1 i2]; exact srt_r (dgs e.2.2.1) 1000 hV.dg1 j i i1 i2)
      have ha := q4.1
      refine ⟨k - 1, ((j : Int) + 1, up ν' a p (dgs e.2.2.1 (j : Int))), ?_, by omega, j + 1, by dsimp only; omega, by dsimp only; omega, q3.kp (fun x hx _ => up_ne (by omega)), q4.up, fun i i1 i2 => ?_, fun y hy => (up_ne hy).trans ((q5 y hy).trans (h9 y hy))⟩
      · dsimp only
        unfold bL_isSequence_9
        rw [h6.2.2.2.1, if_pos (show wr (j : Int) < wr e.1 by rw [wr_id (by omega) (by omega), wr_id (by omega) (by omega)]; omega), q1, obs]
        dsimp only
        rw [x_degL hn q3 (by omega), obs, q4.si (by omega), obs]
      · dsimp only
        rw [q6 i]
        show _ = insf (dgs e.2.2.1 (j : Int)) j (srt (dgs e.2.2.1) j) i
        exact insf_cg _ j _ _ (fun k k1 k2 => h8 k k1 k2) i i1 (by omega)
    · left
      have hj : j = e.1.toNat := by omega
      refine ⟨ξ, ?_, h6, h7, fun i i1 i2 => by rw [← hj]; exact h8 i i1 (by omega), h9⟩
      dsimp only
      unfold bL_isSequence_9
      rw [h6.2.2.2.1, if_neg (show ¬ wr (j : Int) < wr e.1 by rw [wr_id (by omega) (by omega), wr_id (by omega) (by omega)]; omega)]) n e.1.toNat (0, μ) ⟨0, rfl, by dsimp only; omega, hQ, hA, fun i i1 i2 => by omega, fun _ _ => rfl⟩ (by omega)
  exact ⟨b, r1, ⟨r2, r3, r4⟩, r5⟩
theorem x_slkL (hn : 5000 ≤ n) {ν : qMu} (h : SL ν e a) {g k : Int} (hk : 1 ≤ k ∧ k ≤ e.1) : lp (fun x : Int × Int => bL_isSequence_96 n a g k x.1 x.2 ν) n (k * (k - 1), 0) = some (slk (srt (dgs e.2.2.1) e.1.toNat) e.1 k) := by
  have hN := h.1.2.2.1
  have hV := h.1.2.1.1
  have hb : ∀ z i, 0 ≤ i → i < e.1 → bL_isSequence_96 n a g k z i ν = some (.inl (z + (if i < k then -(srt (dgs e.2.2.1) e.1.toNat i) else if srt (dgs e.2.2.1) e.1.toNat i < k then srt (dgs e.2.2.1) e.1.toNat i else k), i + 1)) := by
    intro z i i1 i2
    have hr := srt_r (dgs e.2.2.1) 1000 hV.dg1 e.1.toNat i i1 (by omega)
    have l1 : qLi ν a i = some (srt (dgs e.2.2.1) e.1.toNat i) := by rw [h.2.1.li (by omega), h.2.2 i i1 i2]
    unfold bL_isSequence_96
    rw [h.1.2.2.2.1, if_pos (show wr i < wr e.1 by rw [wr_id (by omega) (by omega), wr_id (by omega) (by omega)]; omega), wr_id (x := i) (by omega) (by omega), wr_id (x := k) (by omega) (by omega), l1]
    by_cases c : i < k
    · rw [if_pos c, if_pos c, obs, obs]
    · rw [if_neg c, if_neg c, obs, obs, mn_id (by omega) (by omega)]
  have he : ∀ z, bL_isSequence_96 n a g k z e.1 ν = some (.inr z) := by
    intro z
    unfold bL_isSequence_96
    rw [h.1.2.2.2.1, if_neg (by omega)]
  rw [lp_rs2 0 hb he (by omega) (by omega) (by omega)]
  rfl
/-- all slacks asked -/
theorem x_slks (hn : 5000 ≤ n) (h : SL μ e a) : ∃ g μ', lp (fun x : Int × Int × qMu => bL_isSequence_75 n a x.1 x.2.1 x.2.2) n (1, 1, μ) = some (.inl (g, μ')) ∧ SL μ' e a ∧ FC μ μ' ∧ (g = 1 ∧ (∀ k, 1 ≤ k → k ≤ e.1 → 0 ≤ slk (srt (dgs e.2.2.1) e.1.toNat) e.1 k) ∨ g = 0 ∧ ¬ ∀ k, 1 ≤ k → k ≤ e.1 → 0 ≤ slk (srt (dgs e.2.2.1) e.1.toNat) e.1 k) := by
  have hN := h.1.2.2.1
  have hV := h.1.2.1.1
  obtain ⟨y, r1, g, μ', r2, r3, r4, r5⟩ := lp_inv (f := fun x : Int × Int × qMu => bL_isSequence_75 n a x.1 x.2.1 x.2.2) (fun k x => (x.2.1 = e.1 + 1 - (k : Int) ∧ 1 ≤ x.2.1) ∧ SL x.2.2 e a ∧ FC μ x.2.2 ∧ (x.1 = 1 ∧ (∀ k, 1 ≤ k → k < x.2.1 → 0 ≤ slk (srt (dgs e.2.2.1) e.1.toNat) e.1 k) ∨ x.1 = 0 ∧ ¬ ∀ k, 1 ≤ k → k < x.2.1 → 0 ≤ slk (srt (dgs e.2.2.1) e.1.toNat) e.1 k)) (fun y => ∃ g μ', y = .inl (g, μ') ∧ SL μ' e a ∧ FC μ μ' ∧ (g = 1 ∧ (∀ k, 1 ≤ k → k ≤ e.1 → 0 ≤ slk (srt (dgs e.2.2.1) e.1.toNat) e.1 k) ∨ g = 0 ∧ ¬ ∀ k, 1 ≤ k → k ≤ e.1 → 0 ≤ slk (srt (dgs e.2.2.1) e.1.toNat) e.1 k)) (by
    rintro k ⟨g, i, ξ⟩ ⟨⟨h4, h5⟩, h6, h7, h8⟩
    dsimp only at h4 h5 h6 h7 h8
    by_cases hi : e.1 < i
    · left
      refine ⟨.inl (g, ξ), ?_, g, ξ, rfl, h6, h7, ?_⟩
      · dsimp only
        unfold bL_isSequence_75
        rw [h6.1.2.2.2.1, if_pos (show wr e.1 < wr i by rw [wr_id (by omega) (by omega), wr_id (by omega) (by omega)]; omega)]
      · rcases h8 with ⟨q1, q2⟩ | ⟨q1, q2⟩
        · exact Or.inl ⟨q1, fun k k1 k2 => q2 k k1 (by omega)⟩
        · exact Or.inr ⟨q1, fun q => q2 (fun k k1 k2 => q k k1 (by omega))⟩
    · right
      obtain ⟨ξ1, s1, s2⟩ := y_sorted hn h6.1.1 h6.1.2.1 (p := i - 1) (by omega)
      have S1 := h6.fc s2
      obtain ⟨ξ2, t1, t2⟩ := y_slack hn S1.1.1 S1.1.2.1 (p := i) (by omega)
      have S2 := S1.fc t2
      have l1 : qLi ξ1 a (i - 1) = some (srt (dgs e.2.2.1) e.1.toNat (i - 1)) := by rw [S1.2.1.li (by omega), S1.2.2 _ (by omega) (by omega)]
      obtain ⟨S, hS⟩ : ∃ S, S = slk (srt (dgs e.2.2.1) e.1.toNat) e.1 i := ⟨_, rfl⟩
      have hSr := slk_r (o := srt (dgs e.2.2.1) e.1.toNat) (N := e.1) (k := i) (by omega) (fun j j1 j2 => srt_r (dgs e.2.2.1) 1000 hV.dg1 e.1.toNat j j1 (by omega)) (by omega)
      rw [← hS] at hSr t1
      have hx := x_slkL (g := g) hn h6 (k := i) (by omega)
      rw [← hS] at hx
      refine ⟨k - 1, ((if wr g = 0 then 0 else if wr S < 0 then 0 else 1), i + 1, ξ2), ?_, by omega, ⟨by dsimp only; omega, by dsimp only; omega⟩, S2, (h7.tr s2).tr t2, ?_⟩
      · dsimp only
        unfold bL_isSequence_75
        rw [h6.1.2.2.2.1, if_neg (show ¬ wr e.1 < wr i by rw [wr_id (by omega) (by omega), wr_id (by omega) (by omega)]; omega), hx, obs, s1, obs, Sum.elim_inl]
        dsimp only
        rw [l1, obs, if_pos rfl, t1, obs, Sum.elim_inl, if_pos rfl]
      · dsimp only
        rw [wr_id (x := S) (by omega) (by omega)]
        rcases h8 with ⟨rfl, q2⟩ | ⟨rfl, q2⟩
        · rw [if_neg c1w]
          by_cases c : S < 0
          · rw [if_pos c]
            refine Or.inr ⟨rfl, fun q => ?_⟩
            have := q i (by omega) (by omega)
            omega
          · rw [if_neg c]
            refine Or.inl ⟨rfl, fun k k1 k2 => ?_⟩
            by_cases qk : k = i
            · rw [qk, ← hS]
              omega
            · exact q2 k k1 (by omega)
        · rw [if_pos c0w]
          exact Or.inr ⟨rfl, fun q => q2 (fun k k1 k2 => q k k1 (by omega))⟩) n e.1.toNat (1, 1, μ) ⟨⟨by dsimp only; omega, Int.le_refl _⟩, h, FC.rf μ, Or.inl ⟨rfl, fun k k1 k2 => by dsimp only at k2; omega⟩⟩ (by omega)
  subst r2
  exact ⟨g, μ', r1, r3, r4, r5⟩
theorem x_isSeq (hn : 5000 ≤ n) (h : QS μ e) (hj : qJn μ < 700) (hs : qJs μ < 70000) : ∃ μ', fL_isSequence n μ = some (.inl 1, μ') ∧ QS μ' e ∧ (∀ a, a < 87 → a ∉ [19, 20, 22, 23, 24] → μ' a = μ a) ∧ (qJn μ' ≤ qJn μ + 1 ∧ qJs μ' ≤ qJs μ + 6) := by
  have hN := h.2.2.1
  have hV := h.2.1.1
  have h16 := hV.2.2.2.2
  have h00 := hV.e0
  have eN : ((e.1.toNat : Nat) : Int) = e.1 := by omega
  obtain ⟨μ1, a1, a2, a3, a4⟩ := nw_num (μ := μ) (l := e.1.toNat) (by omega) (by omega) (by omega)
  rw [eN] at a1
  have a4c := a4.1
  have o1 : ∀ x, x < 87 → μ1 x = μ x := fun x hx => a4.2 x (by omega) (by omega)
  obtain ⟨μ2, b1, b2, b3⟩ := x_srtL hn (h.kp (fun x hx _ => o1 x hx)) a2
  obtain ⟨g, μ3, c1, c2, c3, c4⟩ := x_slks hn b2
  obtain ⟨p0, μ4, d1, d2, d3⟩ := y_possible hn c2.1.1 c2.1.2.1 (p := 0) (by omega)
  have S4 := c2.fc d2
  obtain ⟨p1, μ5, e1, e2, e3⟩ := y_possible hn S4.1.1 S4.1.2.1 (p := 1) (by omega)
  have S5 := S4.fc e2
  obtain ⟨p2, μ6, f1, f2, f3⟩ := y_possible hn S5.1.1 S5.1.2.1 (p := 2) (by omega)
  have S6 := S5.fc f2
  have fr := ((c3.tr d2).tr e2).tr f2
  have hnum := a2.1
  have hp0 : p0 = 1 := by
    rcases d3 with ⟨q, -⟩ | ⟨-, q⟩
    · exact q
    · exact absurd ⟨fun z => by omega, fun z => by omega⟩ q
  have l5 : qLi μ5 (87 + qJn μ) 0 = some (srt (dgs e.2.2.1) e.1.toNat 0) := by rw [S5.2.1.li (by omega), S5.2.2 _ (by omega) (by omega)]
  have hsr := srt_r (dgs e.2.2.1) 1000 hV.dg1 e.1.toNat 0 (by omega) (by omega)
  have hh := hand hV
  have hp1 : p1 = if wr (2 * Ed e.2.2.1 - srt (dgs e.2.2.1) e.1.toNat 0) < wr (srt (dgs e.2.2.1) e.1.toNat 0) then 0 else 1 := by
    rw [wr_id (by omega) (by omega), wr_id (by omega) (by omega)]
    by_cases c : 2 * Ed e.2.2.1 - srt (dgs e.2.2.1) e.1.toNat 0 < srt (dgs e.2.2.1) e.1.toNat 0
    · rw [if_pos c]
      rcases e3 with ⟨-, q⟩ | ⟨q, -⟩
      · have := q.1 rfl
        omega
      · exact q
    · rw [if_neg c]
      rcases e3 with ⟨q, -⟩ | ⟨-, q⟩
      · exact q
      · exact absurd ⟨fun _ => by omega, fun z => by omega⟩ q
  have hp2 : p2 = g := by
    rcases f3 with ⟨q1, q2⟩ | ⟨q1, q2⟩
    · rcases c4 with ⟨r1, r2⟩ | ⟨r1, r2⟩
      · omega
      · exact absurd (q2.2 rfl) r2
    · rcases c4 with ⟨r1, r2⟩ | ⟨r1, r2⟩
      · exact absurd ⟨fun z => by omega, fun _ => r2⟩ q2
      · omega
  have o2 : ∀ x, x ≠ 87 + qJn μ → x ∉ [19, 20, 22, 23, 24] → μ6 x = μ1 x := fun x h1 h2 => (fr x h2).trans (b3 x h1)
  have n6 : qJn μ6 = qJn μ1 := qJn_cg (o2 _ (by omega) (by decide))
  have n6s : qJs μ6 = qJs μ1 := qJs_cg (o2 _ (by omega) (by decide))
  refine ⟨μ6, ?_, S6.1, fun a q1 q2 => (o2 a (by omega) q2).trans (o1 a q1), by omega, by omega⟩
  unfold fL_isSequence
  rw [h.2.2.2.1, a1, obs]
  show (lp (fun x : Int × qMu => bL_isSequence_9 n (87 + qJn μ) x.1 x.2) n (0, μ1)).bind _ = _
  rw [b1, obs]
  show (lp (fun x : Int × Int × qMu => bL_isSequence_75 n (87 + qJn μ) x.1 x.2.1 x.2.2) n (1, 1, μ2)).bind _ = _
  rw [c1, obs, Sum.elim_inl]
  show (fX9_isPossible n 0 μ3).bind _ = _
  rw [d1, obs]
  show (if wr p0 = 0 then _ else _) = _
  rw [hp0, if_neg c1w]
  show (fX9_isPossible n 1 μ4).bind _ = _
  rw [e1, obs]
  show (qLi μ5 (87 + qJn μ) 0).bind _ = _
  rw [l5, obs, x_edgL hn S5.1, obs, obs, if_pos (by rw [← hp1]), f1, obs]
  show (if wr p2 = wr g then _ else _) = _
  rw [hp2, if_pos rfl]
end SQL
