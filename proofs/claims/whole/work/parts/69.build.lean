/-! BUILD AND REALISE -/
noncomputable def rlz (md N : Int) (d : Int → Int) : Int → Int → Int := if md = 0 then (b0 d N.toNat).2 else GR N md (if md = 1 then 16 else 8) d (fun _ _ => 0)
theorem GR_vd {N S0 md : Int} (h32 : S0 ≤ 32) (hm : md = 1 ∨ md = 2) : ∀ (k : Nat) (l : Int → Int) (c : Int → Int → Int), JJ N S0 l c → GS N md k l c → Vd N (GR N md k l c)
  | 0, _, c, h, _ => h.1
  | k + 1, l, c, h, hg => by
    by_cases q : ndi l T0 N = -1
    · rw [GR_e q]
      exact h.1
    · rcases hg with hg | ⟨-, hg, hg'⟩
      · exact absurd hg q
      · have e : GR N md (k + 1) l c = GR N md k (rnd N md l c).1 (rnd N md l c).2.2 := if_neg q
        rw [e]
        exact GR_vd h32 hm k _ _ (h.next h32 hm q hg) hg'
theorem rlz_vd {md N : Int} {d : Int → Int} (hN : 1 ≤ N ∧ N ≤ 8) (hd : ∀ i, 0 ≤ d i ∧ d i ≤ 150) (h32 : rs d 0 N ≤ 32) (he : rs d 0 N % 2 = 0) (hm : 0 ≤ md ∧ md ≤ 2) (hp : pos md N d) : Vd N (rlz md N d) := by
  have eN : ((N.toNat : Nat) : Int) = N := by omega
  have hd' : ∀ i, 0 ≤ d i ∧ d i ≤ 1000 := fun i => by have := hd i; omega
  unfold rlz
  have hc : md = 0 ∨ md = 1 ∨ md = 2 := by omega
  rcases hc with rfl | rfl | rfl
  · rw [if_pos rfl]
    have := (b0_ok hd N.toNat (by omega)).vd (by omega) (by rw [eN]; exact he) (by rw [eN]; exact h32)
    rw [eN] at this
    exact this
  · rw [if_neg (by omega), if_pos rfl]
    exact GR_vd h32 (Or.inl rfl) 16 d _ (JJ0 hN hd' rfl) (gs_1 hN hd' rfl h32 he hp)
  · rw [if_neg (by omega), if_neg (by omega)]
    exact GR_vd h32 (Or.inr rfl) 8 d _ (JJ0 hN hd' rfl) (gs_2 hN hd' rfl h32 he hp)
section BUI
variable {μ ν : qMu} {n q g : Nat} {N m md : Int} {d : Int → Int} {c t : Int → Int → Int}
theorem x_copyD (hn : 5000 ≤ n) (hN : 0 ≤ N ∧ N ≤ 8) (h0 : rd μ q 3 = N) (h1 : ∀ i, 0 ≤ i → i < N → rd μ (q + 1) i = d i) : ∃ μ', lp (fun x : Int × qMu => bX6_build_10 n q g md x.1 x.2) n (0, μ) = some μ' ∧ LK μ' (q + 3) N d ∧ Fr [q + 3] μ μ' := by
  obtain ⟨y, r1, r2, r3⟩ := lp_inv (f := fun x : Int × qMu => bX6_build_10 n q g md x.1 x.2) (fun k x => (x.1 = N - (k : Int) ∧ 0 ≤ x.1) ∧ LK x.2 (q + 3) x.1 d ∧ Fr [q + 3] μ x.2) (fun y => LK y (q + 3) N d ∧ Fr [q + 3] μ y) (by
    rintro k ⟨i, ξ⟩ ⟨⟨h4, h5⟩, h6, h7⟩
    dsimp only at h4 h5 h6 h7
    have e0 : rd ξ q 3 = N := (rd_cg (h7 q (by simp)) 3).trans h0
    by_cases hi : i < N
    · right
      have e1 : rd ξ (q + 1) i = d i := (rd_cg (h7 (q + 1) (by simp)) i).trans (h1 i h5 hi)
      refine ⟨k - 1, (i + 1, up ξ (q + 3) i (d i)), ?_, by omega, ⟨by dsimp only; omega, by dsimp only; omega⟩, fun j j1 j2 => ?_, h7.tr (Fr.up (by simp))⟩
      · simp (disch := omega) only [bX6_build_10, e0, wr_id, if_pos, qLd_in, e1, qSa_in, Option.bind_some]
      · dsimp only at j2 ⊢
        by_cases e : j = i
        · rw [e, rd_at, ← e1, wr_rd]
        · rw [rd_ni e]
          exact h6 j j1 (by omega)
    · left
      have hiN : i = N := by omega
      subst hiN
      refine ⟨ξ, ?_, h6, h7⟩
      simp (disch := omega) only [bX6_build_10, e0, wr_id, if_neg]) n N.toNat (0, μ) ⟨⟨by dsimp only; omega, Int.le_refl _⟩, fun j j1 j2 => by dsimp only at j2; omega, Fr.rf _ _⟩ (by omega)
  exact ⟨y, r1, r2, r3⟩
theorem x_build (hn : 5000 ≤ n) (hN : 1 ≤ N ∧ N ≤ 8) (h : SQ μ 22 N.toNat d) (hd : ∀ i, 0 ≤ d i ∧ d i ≤ 150) (h32 : rs d 0 N ≤ 32) (he : rs d 0 N % 2 = 0) (hm : 0 ≤ md ∧ md ≤ 2) (hp : pos md N d) : ∃ μ', fX6_build n 22 11 md μ = some μ' ∧ GY μ' 11 N (rlz md N d) ∧ Fr [11, 12, 25] μ μ' := by
  have eN : ((N.toNat : Nat) : Int) = N := by omega
  have hd' : ∀ i, 0 ≤ d i ∧ d i ≤ 1000 := fun i => by have := hd i; omega
  have h0 : rd μ 22 3 = N := h.1.trans eN
  obtain ⟨μ1, a1, a2, a3⟩ := x_clear (μ := μ) (g := 11) (N := N) hn (by omega)
  have h01 : rd μ1 22 3 = N := (rd_cg (a3 22 (by decide)) 3).trans h0
  obtain ⟨μ2, b1, b2, b3⟩ := x_copyD (μ := μ1) (q := 22) (g := 11) (md := md) (d := d) hn (by omega) h01 (fun i i1 i2 => (rd_cg (a3 23 (by decide)) i).trans (h.2.2.1 i i1 (by omega)))
  have h02 : rd μ2 22 3 = N := (rd_cg (b3 22 (by decide)) 3).trans h01
  have a2' : GY μ2 11 N (fun _ _ => 0) := a2.kp (b3 11 (by decide)) (b3 12 (by decide))
  have f2 : Fr [11, 12, 25] μ μ2 := (a3.wk (by simp)).tr (b3.wk (by simp))
  unfold rlz
  have hc : md = 0 ∨ md = 1 ∨ md = 2 := by omega
  rcases hc with rfl | rfl | rfl
  · obtain ⟨μ3, d1, d2, d3⟩ := x_withLoops (q := 22) (g := 11) (N := N.toNat) (l := d) hn (by omega) hd (by rw [eN]; exact a2') (by rw [eN]; exact h02) (by rw [eN]; exact b2) (by decide)
    rw [eN] at d2
    refine ⟨μ3, ?_, by rw [if_pos rfl]; exact d2, f2.tr (d3.wk (by simp))⟩
    simp (disch := omega) only [fX6_build, h0, a1, b1, d1, wr_id, if_pos, Option.bind_some]
    rfl
  · obtain ⟨μ3, d1, d2, d3⟩ := x_withoutLoops (S0 := rs d 0 N) hn a2' h02 h32 b2 (JJ0 hN hd' rfl) (gs_1 hN hd' rfl h32 he hp)
    refine ⟨μ3, ?_, by rw [if_neg (by omega), if_pos rfl]; exact d2, f2.tr d3⟩
    simp (disch := omega) only [fX6_build, h0, a1, b1, d1, wr_id, if_pos, if_neg, Option.bind_some]
    rfl
  · obtain ⟨μ3, d1, d2, d3⟩ := x_simple (S0 := rs d 0 N) hn a2' h02 h32 b2 (JJ0 hN hd' rfl) (gs_2 hN hd' rfl h32 he hp)
    refine ⟨μ3, ?_, by rw [if_neg (by omega), if_neg (by omega)]; exact d2, f2.tr d3⟩
    simp (disch := omega) only [fX6_build, h0, a1, b1, d1, wr_id, if_neg, Option.bind_some]
theorem m_lays87 (hn : 5000 ≤ n) (h : SM μ N m c t) (hV : Vd N c) : ∃ μ', lp (fun x : Int × qMu => bX10_realises_2 n md x.1 x.2) n (0, μ) = some μ' ∧ LK μ' 87 N (dgs c) ∧ Fr [87] μ μ' := by
  have hN := hV.N
  obtain ⟨y, r1, r2, r3⟩ := lp_inv (f := fun x : Int × qMu => bX10_realises_2 n md x.1 x.2) (fun k x => (x.1 = N - (k : Int) ∧ 0 ≤ x.1) ∧ LK x.2 87 x.1 (dgs c) ∧ Fr [87] μ x.2) (fun y => LK y 87 N (dgs c) ∧ Fr [87] μ y) (by
    rintro k ⟨i, ξ⟩ ⟨⟨h4, h5⟩, h6, h7⟩
    dsimp only at h4 h5 h6 h7
    have hS : SM ξ N m c t := h.kp (h7 79 (by decide))
    by_cases hi : i < N
    · right
      refine ⟨k - 1, (i + 1, up ξ 87 i (dgs c i)), ?_, by omega, ⟨by dsimp only; omega, by dsimp only; omega⟩, fun j j1 j2 => ?_, h7.tr (Fr.up (by simp))⟩
      · simp (disch := omega) only [bX10_realises_2, hS.1, wr_id, if_pos, qLd_in, m_degreeOf hn hS.2.2.1 (Or.inl rfl), qSa_in, Option.bind_some]
      · dsimp only at j2 ⊢
        by_cases e : j = i
        · rw [e, rd_at, hV.dw]
        · rw [rd_ni e]
          exact h6 j j1 (by omega)
    · left
      have hiN : i = N := by omega
      subst hiN
      refine ⟨ξ, ?_, h6, h7⟩
      simp (disch := omega) only [bX10_realises_2, hS.1, wr_id, if_neg, qLd_in, Option.bind_some]) n N.toNat (0, μ) ⟨⟨by dsimp only; omega, Int.le_refl _⟩, fun j j1 j2 => by dsimp only at j2; omega, Fr.rf _ _⟩ (by omega)
  exact ⟨y, r1, r2, r3⟩
theorem m_realises (hn : 5000 ≤ n) (h : SM μ N m c t) (hV : Vd N c) (hV' : Vd N t) (hm : 0 ≤ md ∧ md ≤ 2) (hp : pos md N (dgs c)) : ∃ μ', fX10_realises n md μ = some μ' ∧ SM μ' N m (rlz md N (dgs c)) t ∧ Fr [79, 87, 88] μ μ' := by
  have hN := hV.N
  have eN : ((N.toNat : Nat) : Int) = N := by omega
  have hd : ∀ i, 0 ≤ dgs c i ∧ dgs c i ≤ 150 := fun i => by have := hV.dg i; omega
  have hd' := hV.dg1
  have hh := hand hV
  have hE1 := hV.2.2.2.2
  obtain ⟨μ1, a1, a2, a3⟩ := m_lays87 (md := md) hn h hV
  have h1 : SM μ1 N m c t := h.kp (a3 79 (by decide))
  unfold rlz
  have hc : md = 0 ∨ md = 1 ∨ md = 2 := by omega
  have h79 : rd μ1 79 0 = ((N.toNat : Nat) : Int) ∧ rd μ1 79 1 = m ∧ GM μ1 66 t := ⟨by rw [eN]; exact h1.1, h1.2.1, h1.2.2.2⟩
  rcases hc with rfl | hc
  · obtain ⟨μ2, b1, b2, b3⟩ := m_byLoops (N := N.toNat) (l := dgs c) hn (by omega) hd h79 hV'.bd (by rw [eN]; exact a2)
    rw [eN] at b2
    refine ⟨μ2, ?_, by rw [if_pos rfl]; exact b2, (a3.wk (by simp)).tr (b3.wk (by simp))⟩
    simp (disch := omega) only [fX10_realises, a1, b1, wr_id, if_pos, Option.bind_some]
    rfl
  · obtain ⟨μ2, b1, b2, b3⟩ := m_empties (N := N.toNat) hn h79
    rw [eN] at b2
    obtain ⟨μ3, d1, d2, d3⟩ := m_freesAll (μ := μ2) hn
    have b2' : SM μ3 N m (fun _ _ => 0) t := b2.kp (d3 79 (by decide))
    have l3 : LK μ3 87 N (dgs c) := fun i i1 i2 => by
      rw [rd_cg (d3 87 (by decide)), rd_cg (b3 87 (by decide))]
      exact a2 i i1 i2
    have f3 : Fr [79, 87, 88] μ μ3 := ((a3.wk (by simp)).tr (b3.wk (by simp))).tr (d3.wk (by simp))
    have hG : GS N md (if md = 1 then 16 else 8) (dgs c) (fun _ _ => 0) := by
      rcases hc with rfl | rfl
      · exact gs_1 hN hd' rfl (by omega) (by omega) hp
      · exact gs_2 hN hd' rfl (by omega) (by omega) hp
    have hK : (if md = 1 then 16 else 8) ≤ 16 := by split <;> omega
    obtain ⟨e1, μ4, e2, e3, e4⟩ := m_rounds (S0 := rs (dgs c) 0 N) hn hK b2' hV' (by omega) hc l3 d2 (JJ0 hN hd' rfl) hG
    refine ⟨μ4, ?_, by rw [if_neg (by omega)]; exact e3, f3.tr e4⟩
    have hm0 : ¬ md = 0 := by omega
    simp (disch := omega) only [fX10_realises, a1, b1, d1, e1, e2, wr_id, if_neg hm0, Option.bind_some]
end BUI
