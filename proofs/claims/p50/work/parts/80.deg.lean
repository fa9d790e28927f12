/-! DEGREES of the text, in the class -/
def tki (b : Int → Int) (e s : Int) : Nat → Int
  | 0 => nx b e s
  | i + 1 => nx b e (tki b e s i)
def dgt (b : Int → Int) (e s : Int) (i : Int) : Int := if 0 ≤ tkV b e (tki b e s i.toNat) ∧ tkV b e (tki b e s i.toNat) ≤ 32 then tkV b e (tki b e s i.toNat) else 0
def pdg (b : Int → Int) (e s : Int) : Nat → Nat → (Int × Int) ⊕ Nat
  | 0, _ => .inl (0, 0)
  | k + 1, i => if i = 0 ∨ tkK b e (tki b e s i) = 2 then pbd (pnum b e (tki b e s i) 0 32) (fun _ => if i = 8 then .inl (er b e (tki b e s i) 5) else pdg b e s k (i + 1)) else .inr i
def pdeg (b : Int → Int) (e s : Int) : pO := pbd (pdg b e s 9 0) fun N => if tkK b e (tki b e s N) = 3 ∧ (rs (dgt b e s) 0 (N : Int) % 2 = 1 ∨ 32 < rs (dgt b e s) 0 (N : Int)) then .inl (er b e (tki b e s N) 4) else .inr (tki b e s N, (N : Int), 0, (b0 (dgt b e s) N).2, zc)
theorem dgt_r (b : Int → Int) (e s i : Int) : 0 ≤ dgt b e s i ∧ dgt b e s i ≤ 32 := by
  unfold dgt
  split <;> omega
theorem tki_r {b : Int → Int} {e s : Int} (hs : 0 ≤ s ∧ s ≤ e) : ∀ i : Nat, 0 ≤ tki b e s i ∧ tki b e s i ≤ e
  | 0 => (nx_r (b := b) hs).1
  | i + 1 => (nx_r (b := b) (tki_r hs i)).1
theorem tki_g {b : Int → Int} {e s : Int} (hs : 0 ≤ s ∧ s ≤ e) : ∀ i : Nat, s ≤ tki b e s i ∧ (s < e → s + 1 ≤ tki b e s i)
  | 0 => by
    have h1 := nx_r (b := b) hs
    show s ≤ nx b e s ∧ (s < e → s + 1 ≤ nx b e s)
    refine ⟨?_, h1.2⟩
    by_cases q : s < e
    · have := h1.2 q
      omega
    · have h2 := tkE_r (b := b) hs
      have h3 := tkS_r (b := b) (e := e) (p := tkE b e s) (by omega)
      unfold nx
      omega
  | i + 1 => by
    have h1 := tki_g (b := b) hs i
    have h2 := tki_r (b := b) hs i
    have h3 := nx_r (b := b) h2
    show s ≤ nx b e (tki b e s i) ∧ (s < e → s + 1 ≤ nx b e (tki b e s i))
    have h4 : tki b e s i ≤ nx b e (tki b e s i) := by
      have h5 := tkE_r (b := b) h2
      have h6 := tkS_r (b := b) (e := e) (p := tkE b e (tki b e s i)) (by omega)
      unfold nx
      omega
    exact ⟨by omega, fun q => by have := h1.2 q; omega⟩
theorem rs_c32 : ∀ N : Nat, rs (fun _ => (32 : Int)) 0 (N : Int) = 32 * (N : Int)
  | 0 => rfl
  | N + 1 => by
    have := rs_c32 N
    rw [show ((N + 1 : Nat) : Int) = (N : Int) + 1 by omega, rs_last (by omega), this]
    omega
theorem dgt_s (b : Int → Int) (e s : Int) {N : Nat} (hN : N ≤ 8) : 0 ≤ rs (dgt b e s) 0 (N : Int) ∧ rs (dgt b e s) 0 (N : Int) ≤ 256 := by
  have h1 : 0 ≤ rs (dgt b e s) 0 (N : Int) := rs_nn (fun k _ _ => (dgt_r b e s k).1)
  have h2 : rs (dgt b e s) 0 (N : Int) ≤ rs (fun _ => (32 : Int)) 0 (N : Int) := rs_le (fun k _ _ => (dgt_r b e s k).2)
  have h3 := rs_c32 N
  omega
theorem SQ.kp {μ μ' : qMu} {q j : Nat} {d : Int → Int} (h : SQ μ q j d) (h0 : μ' q = μ q) (h1 : μ' (q + 1) = μ (q + 1)) (h2 : μ' (q + 2) = μ (q + 2)) : SQ μ' q j d :=
  ⟨(rd_cg h0 3).trans h.1, (rd_cg h0 4).trans h.2.1, fun i i1 i2 => (rd_cg h1 i).trans (h.2.2.1 i i1 i2), fun i i1 i2 => (rd_cg h2 i).trans (h.2.2.2 i i1 i2)⟩
section DEG
variable {μ : qMu} {n : Nat} {b : Int → Int} {e s : Int}
theorem dgt_at {i : Nat} {lo hi : Int} (h : lo ≤ tkV b e (tki b e s i) ∧ tkV b e (tki b e s i) ≤ hi) (hl : lo = 0 ∧ hi = 32) : dgt b e s (i : Int) = tkV b e (tki b e s i) := by
  unfold dgt
  rw [Int.toNat_natCast, if_pos (by omega)]
theorem x_degs (hn : 5000 ≤ n) (hb : TB b e) (hs : 0 ≤ s ∧ s ≤ e) : ∀ (k i m : Nat) (ξ : qMu), i + k = 9 → i ≤ 8 → k < m → TX ξ b e → KX ξ b e (tki b e s i) → rd ξ 1 4 = 0 → XE ξ (0, -1) → SQ ξ 7 i (dgt b e s) → ∃ ξ', FX ξ ξ' ∧ ((∃ p, pdg b e s k i = .inl p ∧ lp (fun x : Int × qMu => bX5_readDegrees_13 n x.1 x.2) m ((i : Int), ξ) = some (.inr (0, ξ')) ∧ XE ξ' p) ∨ ∃ N : Nat, (1 ≤ N ∧ N ≤ 8) ∧ pdg b e s k i = .inr N ∧ lp (fun x : Int × qMu => bX5_readDegrees_13 n x.1 x.2) m ((i : Int), ξ) = some (.inl ξ') ∧ TX ξ' b e ∧ KX ξ' b e (tki b e s N) ∧ rd ξ' 1 4 = 0 ∧ XE ξ' (0, -1) ∧ SQ ξ' 7 N (dgt b e s)) := by
  intro k
  induction k with
  | zero => intro i m ξ h1 h2; omega
  | succ k ih =>
    intro i m ξ hik hi8 hm hT hK h4 hX hQ
    obtain ⟨m, rfl⟩ : ∃ m', m = m' + 1 := ⟨m - 1, by omega⟩
    have h1 := hb.1
    have hr := tki_r (b := b) hs i
    have k3 := hK.2.2.1
    have hkr := tkK_r b e (tki b e s i)
    by_cases hc : i = 0 ∨ tkK b e (tki b e s i) = 2
    · have epd : pdg b e s (k + 1) i = pbd (pnum b e (tki b e s i) 0 32) (fun _ => if i = 8 then .inl (er b e (tki b e s i) 5) else pdg b e s k (i + 1)) := if_pos hc
      rcases x_expN hb hr hK (lo := 0) (hi := 32) (by omega) (by omega) with ⟨p, μ2, b1, b2, b3, b4⟩ | ⟨b1, b2, b3, b4⟩
      · refine ⟨μ2, b4.fx (by decide) (by decide), Or.inl ⟨p, by rw [epd, b1]; rfl, ?_, b3⟩⟩
        have eb : bX5_readDegrees_13 n (i : Int) ξ = some (.inr (.inr (0, μ2))) := by
          by_cases h0 : (i : Int) = 0
          · simp (disch := omega) only [ite_true, bX5_readDegrees_13, h0, wr_id, if_pos, if_neg, b2, Option.bind_some]
          · have c2 : tkK b e (tki b e s i) = 2 := by
              rcases hc with hc | hc
              · exact absurd (by omega) h0
              · exact hc
            rw [c2] at k3
            simp (disch := omega) only [ite_true, bX5_readDegrees_13, k3, wr_id, if_pos, if_neg, b2, Option.bind_some]
        rw [lp_s, eb]
        rfl
      · have c2 : tkK b e (tki b e s i) = 2 := by
          apply Decidable.byContradiction
          intro q
          have e9 : pnum b e (tki b e s i) 0 32 = .inl (er b e (tki b e s i) 2) := if_neg q
          rw [e9] at b1
          cases b1
        rw [c2] at k3
        by_cases h8 : i = 8
        · obtain ⟨μ2, d1, d2, d3⟩ := x_fail hK (by omega) (w := 5) (by omega)
          refine ⟨μ2, d3.fx (by decide) (by decide), Or.inl ⟨er b e (tki b e s i) 5, by rw [epd, b1]; exact if_pos h8, ?_, d2⟩⟩
          have ef : fX6_isFull 7 ξ = some 1 := by
            have := hQ.1
            simp (disch := omega) only [ite_true, fX6_isFull, this, wr_id, if_neg]
          have eb : bX5_readDegrees_13 n (i : Int) ξ = some (.inr (.inr (0, μ2))) := by
            simp (disch := omega) only [ite_true, bX5_readDegrees_13, k3, wr_id, if_pos, if_neg, b4, ef, d1, Option.bind_some]
            rfl
          rw [lp_s, eb]
          rfl
        · have ef : fX6_isFull 7 ξ = some 0 := by
            have := hQ.1
            simp (disch := omega) only [ite_true, fX6_isFull, this, wr_id, if_pos]
          have ed : dgt b e s (i : Int) = tkV b e (tki b e s i) := dgt_at b2 ⟨rfl, rfl⟩
          obtain ⟨μ2, d1, d2, d3⟩ := x_append hn hQ (by omega) (fun j => by have := dgt_r b e s j; omega)
          rw [ed] at d1
          have f2 : FX ξ μ2 := d3.fx (by decide)
          obtain ⟨μ3, g1, g2, g3⟩ := x_adv hn hb (hT.fx f2) hr (hK.kp (d3 1 (by decide)))
          have f3 : FX ξ μ3 := f2.tr (g3.fx (by decide) (by decide))
          have eb : bX5_readDegrees_13 n (i : Int) ξ = some (.inl ((i : Int) + 1, μ3)) := by
            by_cases h0 : (i : Int) = 0
            · rw [h0]
              simp (disch := omega) only [ite_true, bX5_readDegrees_13, wr_id, if_pos, if_neg, b3, b4, ef, d1, g1, Option.bind_some]
            · simp (disch := omega) only [ite_true, bX5_readDegrees_13, k3, wr_id, if_pos, if_neg, b3, b4, ef, d1, g1, Option.bind_some]
          have e4 : rd μ3 1 4 = 0 := by
            rw [g3.2 4 (by decide), rd_cg (d3 1 (by decide))]
            exact h4
          obtain ⟨ξ', j1, j2⟩ := ih (i + 1) m μ3 (by omega) (by omega) (by omega) (hT.fx f3) g2 e4 ((hX.kp (d3 1 (by decide))).kf g3 (by decide)) (d2.kp (g3.1 7 (by decide)) (g3.1 (7 + 1) (by decide)) (g3.1 (7 + 2) (by decide)))
          have epd' : pdg b e s (k + 1) i = pdg b e s k (i + 1) := by
            rw [epd, b1]
            exact if_neg h8
          have elp : lp (fun x : Int × qMu => bX5_readDegrees_13 n x.1 x.2) (m + 1) ((i : Int), ξ) = lp (fun x : Int × qMu => bX5_readDegrees_13 n x.1 x.2) m (((i + 1 : Nat) : Int), μ3) := by
            rw [lp_s, eb]
            rfl
          rw [epd', elp]
          exact ⟨ξ', f3.tr j1, j2⟩
    · have epd : pdg b e s (k + 1) i = .inr i := if_neg hc
      have h0 : ¬ i = 0 := fun q => hc (Or.inl q)
      have c2 : ¬ tkK b e (tki b e s i) = 2 := fun q => hc (Or.inr q)
      have eb : bX5_readDegrees_13 n (i : Int) ξ = some (.inr (.inl ξ)) := by
        simp (disch := omega) only [ite_true, bX5_readDegrees_13, k3, wr_id, if_neg]
      refine ⟨ξ, FX.rf _, Or.inr ⟨i, by omega, epd, ?_, hT, hK, h4, hX, hQ⟩⟩
      rw [lp_s, eb]
      rfl
theorem x_deg (hn : 5000 ≤ n) (hb : TB b e) (hT : TX μ b e) (hs : 0 ≤ s ∧ s ≤ e) (hK : KX μ b e s) (h4 : rd μ 1 4 = 0) (hX : XE μ (0, -1)) : XO (pcl b e (pdeg b e s)) b e μ (fX5_readDegrees n μ) := by
  have h1 := hb.1
  obtain ⟨μ1, a1, a2, a3⟩ := x_adv hn hb hT hs hK
  obtain ⟨μ2, b1, b2, b3⟩ := x_clearS (μ := μ1) (q := 7) (d := dgt b e s)
  have f2 : FX μ μ2 := (a3.fx (by decide) (by decide)).tr (b3.fx (by decide))
  have e4 : rd μ2 1 4 = 0 := by
    rw [rd_cg (b3 1 (by decide)), a3.2 4 (by decide)]
    exact h4
  obtain ⟨μ3, d0, d⟩ := x_degs hn hb hs 9 0 n μ2 rfl (by omega) (by omega) (hT.fx f2) (a2.kp (b3 1 (by decide))) e4 ((hX.kf a3 (by decide)).kp (b3 1 (by decide))) b2
  have f3 : FX μ μ3 := f2.tr d0
  rcases d with ⟨p, d1, d2, d3⟩ | ⟨N, hN, d1, d2, dT, dK, d4, dX, dQ⟩
  · refine XO.fail f3 (p := p) ?_ ?_ d3
    · simp only [pdeg, d1, pbd, pcl]
    · have d2' : lp (fun x : Int × qMu => bX5_readDegrees_13 n x.1 x.2) n (0, μ2) = some (.inr (0, μ3)) := d2
      simp only [fX5_readDegrees, a1, b1, d2', Option.bind_some, Sum.elim_inr]
  · have d2' : lp (fun x : Int × qMu => bX5_readDegrees_13 n x.1 x.2) n (0, μ2) = some (.inl μ3) := d2
    have hr := tki_r (b := b) hs N
    have hsum := dgt_s b e s hN.2
    have k3 := dK.2.2.1
    have hkr := tkK_r b e (tki b e s N)
    rcases x_semi dK (by omega) with ⟨c1, s1⟩ | ⟨c1, μ4, s1, s2, s3⟩
    · have t1 : fX6_total 7 μ3 = some (rs (dgt b e s) 0 (N : Int)) := congrArg some dQ.2.1
      have t2 : fX6_length 7 μ3 = some (N : Int) := congrArg some dQ.1
      have di := (dv2 (k := rs (dgt b e s) 0 (N : Int)) (by omega)).2
      by_cases c2 : rs (dgt b e s) 0 (N : Int) % 2 = 1 ∨ 32 < rs (dgt b e s) 0 (N : Int)
      · obtain ⟨μ4, m1, m2, m3⟩ := x_fail dK (by omega) (w := 4) (by omega)
        refine XO.fail (f3.tr (m3.fx (by decide) (by decide))) (p := er b e (tki b e s N) 4) ?_ ?_ m2
        · simp only [pdeg, d1, pbd, pcl, if_pos (show tkK b e (tki b e s N) = 3 ∧ (rs (dgt b e s) 0 (N : Int) % 2 = 1 ∨ 32 < rs (dgt b e s) 0 (N : Int)) from ⟨c1, c2⟩)]
        · by_cases c3 : rs (dgt b e s) 0 (N : Int) % 2 = 1
          · simp (disch := omega) only [ite_true, fX5_readDegrees, a1, b1, d2', s1, t1, di, m1, Option.bind_some, Sum.elim_inl, wr_id, if_neg]
            rfl
          · simp (disch := omega) only [ite_true, fX5_readDegrees, a1, b1, d2', s1, t1, di, m1, Option.bind_some, Sum.elim_inl, wr_id, if_neg, if_pos]
            rfl
      · obtain ⟨μ4, m1, m2, m3, m4⟩ := x_begin (μ := μ3) hn (v := (N : Int)) (by omega)
        have q4 : SQ μ4 7 N (dgt b e s) := dQ.kp (m4 7 (by decide)) (m4 (7 + 1) (by decide)) (m4 (7 + 2) (by decide))
        obtain ⟨μ5, g1, g2, g3⟩ := x_clear (μ := μ4) (g := 3) hn (N := (N : Int)) (by omega)
        have q5 : SQ μ5 7 N (dgt b e s) := q4.kp (g3 7 (by decide)) (g3 (7 + 1) (by decide)) (g3 (7 + 2) (by decide))
        obtain ⟨μ6, i1, i2, i3⟩ := x_copyD (μ := μ5) (q := 7) (g := 3) (md := 0) (N := (N : Int)) (d := dgt b e s) hn (by omega) q5.1 q5.2.2.1
        obtain ⟨μ7, j1, j2, j3⟩ := x_withLoops (μ := μ6) (q := 7) (g := 3) (N := N) (l := dgt b e s) hn (by omega) (fun i => by have := dgt_r b e s i; omega) (g2.kp (i3 3 (by decide)) (i3 (3 + 1) (by decide))) ((rd_cg (i3 7 (by decide)) 3).trans q5.1) i2 (by decide)
        have fr : Fr [3, 4, 5, 6, 10] μ3 μ7 := (((m4.wk (by simp)).tr (g3.wk (by simp))).tr (i3.wk (by simp))).tr (j3.wk (by simp))
        have f7 : FX μ μ7 := f3.tr (fr.fx (by decide))
        have eb : fX6_build n 7 3 0 μ4 = some μ7 := by
          have := q4.1
          simp (disch := omega) only [ite_true, fX6_build, this, g1, i1, j1, Option.bind_some, wr_id, if_pos]
        refine ⟨μ7, f7, Or.inr ⟨tki b e s N, ((N : Int), 0, (b0 (dgt b e s) N).2, zc), ?_, ?_, dT.fx (fr.fx (by decide)), dK.kp (fr 1 (by decide)), j2, ?_, ?_, dX.kp (fr 1 (by decide))⟩⟩
        · simp only [pdeg, d1, pbd, pcl, if_neg (show ¬ (tkK b e (tki b e s N) = 3 ∧ (rs (dgt b e s) 0 (N : Int) % 2 = 1 ∨ 32 < rs (dgt b e s) 0 (N : Int))) from fun q => c2 q.2), if_pos c1]
        · simp (disch := omega) only [ite_true, fX5_readDegrees, a1, b1, d2', s1, t1, t2, di, m1, eb, Option.bind_some, Sum.elim_inl, wr_id, if_neg, if_pos]
        · exact m3.kp (((g3.wk (l' := [3, 4, 10]) (by simp)).tr (i3.wk (by simp))).tr (j3.wk (by simp)) 5 (by decide)) (((g3.wk (l' := [3, 4, 10]) (by simp)).tr (i3.wk (by simp))).tr (j3.wk (by simp)) 6 (by decide))
        · exact (rd_cg (fr 1 (by decide)) 4).trans d4
    · refine XO.fail (f3.tr (s3.fx (by decide) (by decide))) (p := er b e (tki b e s N) 2) ?_ ?_ s2
      · simp only [pdeg, d1, pbd, pcl, if_neg (show ¬ (tkK b e (tki b e s N) = 3 ∧ (rs (dgt b e s) 0 (N : Int) % 2 = 1 ∨ 32 < rs (dgt b e s) 0 (N : Int))) from fun q => c1 q.1), if_neg c1]
      · simp (disch := omega) only [ite_true, fX5_readDegrees, a1, b1, d2', s1, Option.bind_some, Sum.elim_inl, wr_id, if_pos]
end DEG
