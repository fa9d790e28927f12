section CA3
variable {μ : qMu} {n : Nat} {e : qEn} {pp h : Nat} {E : Nat → qEn}
theorem isIn_b {p lo hi : Int} {ν : qMu} (hp : I32 p) (hl : I32 lo) (hh : I32 hi) : (lo ≤ p ∧ p ≤ hi ∧ fX10_isIn p lo hi ν = some 1) ∨ (¬ (lo ≤ p ∧ p ≤ hi) ∧ fX10_isIn p lo hi ν = some 0) := by
  have := m_isInG (μ := ν) hp hl hh
  by_cases c : lo ≤ p ∧ p ≤ hi
  · rw [if_pos c] at this
    exact Or.inl ⟨c.1, c.2, this⟩
  · rw [if_neg c] at this
    exact Or.inr ⟨c, this⟩
/-- a vertex of a code -/
def ptv (k w : Int) : Int := if w = 0 then k / 512 % 8 else if w = 1 then k / 64 % 8 else if w = 2 then k / 8 % 8 else k % 8
theorem ptv_r (k w : Int) : 0 ≤ ptv k w ∧ ptv k w < 8 := by
  unfold ptv
  split
  · omega
  · split
    · omega
    · split <;> omega
theorem x_ptv {k w : Int} (hk : 0 ≤ k ∧ k < 4096) (hw : 0 ≤ w ∧ w ≤ 3) (ν : qMu) : fX0_vertexOf k w ν = some (ptv k w) := by
  obtain ⟨h0, h1, h2, h3⟩ := x_part (ν := ν) hk
  have hc : w = 0 ∨ w = 1 ∨ w = 2 ∨ w = 3 := by omega
  unfold ptv
  rcases hc with rfl | rfl | rfl | rfl
  · exact h0
  · exact h1
  · exact h2
  · exact h3
theorem m_ptv {k w : Int} (hk : 0 ≤ k ∧ k < 4096) (hw : 0 ≤ w ∧ w ≤ 3) (ν : qMu) : fX10_partOf k w ν = some (ptv k w) := by
  obtain ⟨h0, h1, h2, h3⟩ := m_part (ν := ν) hk
  have hc : w = 0 ∨ w = 1 ∨ w = 2 ∨ w = 3 := by omega
  unfold ptv
  rcases hc with rfl | rfl | rfl | rfl
  · exact h0
  · exact h1
  · exact h2
  · exact h3
theorem j_switchAt {p q : Int} (hn : 5000 ≤ n) (R : RR μ e pp h E) (hp : I32 p) (hq : I32 q) : JT (fun x => x) (fL_switchAt n p q) (fX10_switchAt n p q) μ := by
  have hm := R.1.mr
  have hp' : -2147483648 ≤ p ∧ p ≤ 2147483647 := hp
  have e0 : rd μ 0 11 = e.2.1 := R.2.1.2.2
  obtain ⟨μ1, b1, b2, b3, b4⟩ := x_fill (p := e.2.1) hn R.2.1.1.1 R.1.1 hm (by decide)
  have hsz := lsz_le (p := e.2.1) R.1.1
  have hs0 := lsz_nn e.2.1 e.2.2.1
  have aw := x_cw (μ := μ1) hq
  have f1 : FC μ μ1 := b4.c (by decide)
  have R1 := R.c f1
  by_cases c1 : 0 ≤ p ∧ p < lsz e.2.1 e.2.2.1
  · obtain ⟨k1, k2, k3⟩ := lkc_ok (p := e.2.1) (c := e.2.2.1) c1.1 c1.2
    by_cases c2 : 0 ≤ q ∧ q ≤ 3
    · rw [if_pos c2] at aw
      have hv := ptv_r (lkc e.2.1 e.2.2.1 p) q
      have f2 : FC μ (up μ1 92 0 (ptv (lkc e.2.1 e.2.2.1 p) q)) := f1.tr (FC.at92 _ _)
      have R2 := R.c f2
      have e1 : rd (up μ1 92 0 (ptv (lkc e.2.1 e.2.2.1 p) q)) 79 1 = e.2.1 := R2.2.2.1.2.1
      obtain ⟨μ3, d1, d2, d3, d4⟩ := m_laysList (p := e.2.1) hn R2.2.2.1 R.1.1 R.1.2.1 hm
      have i1 := m_isInG (μ := μ3) (x := p) (lo := 0) (hi := lsz e.2.1 e.2.2.1 - 1) hp ⟨by omega, by omega⟩ ⟨by omega, by omega⟩
      have i2 := m_isInG (μ := μ3) (x := q) (lo := 0) (hi := 3) hq ⟨by omega, by omega⟩ ⟨by omega, by omega⟩
      rw [if_pos (by omega)] at i1
      rw [if_pos c2] at i2
      obtain ⟨μ4, g1, g2, g3⟩ := m_good2 (μ := μ3) (a := 1) (b := 1) (Or.inr rfl) (Or.inr rfl)
      rw [if_pos ⟨rfl, rfl⟩] at g1
      have el : rd μ4 89 p = lkc e.2.1 e.2.2.1 p := (rd_cg (g2.1 89 (by decide)) p).trans (d3.at c1.1 c1.2)
      refine JT.mk (k := 0) (b := ptv (lkc e.2.1 e.2.2.1 p) q) R ?_ f2 ?_ ((d4.n (by decide)).tr g2.n) (d2.kp (g2.1 79 (by decide))) g3 (fun _ => at92 ⟨by omega, by omega⟩)
      · have ec : fX7_codeAt p μ1 = some (lkc e.2.1 e.2.2.1 p) := by
          unfold fX7_codeAt
          rw [qLd_in (by omega), obs, b3.at c1.1 c1.2]
        have el1 : fX7_length μ1 = some (lsz e.2.1 e.2.2.1) := congrArg some b2
        unfold fL_switchAt fX9_switchAt
        rw [e0, b1, obs, hp.w, if_neg (by omega), el1, obs, wr_id (by omega) (by omega), if_pos c1.2, aw, obs, Sum.elim_inl, ec, obs, x_ptv k1 c2, obs, obs, Sum.elim_inl, put92]
        rfl
      · unfold fX10_switchAt
        rw [qLd_in (by omega), obs, e1, d1, obs, i1, obs, i2, obs, g1, obs, if_neg n1w, qLd_in (by omega), obs, el, m_ptv k1 c2]
        rfl
    · rw [if_neg c2] at aw
      have e1 : rd μ1 79 1 = e.2.1 := R1.2.2.1.2.1
      obtain ⟨μ3, d1, d2, d3, d4⟩ := m_laysList (p := e.2.1) hn R1.2.2.1 R.1.1 R.1.2.1 hm
      have i1 := m_isInG (μ := μ3) (x := p) (lo := 0) (hi := lsz e.2.1 e.2.2.1 - 1) hp ⟨by omega, by omega⟩ ⟨by omega, by omega⟩
      have i2 := m_isInG (μ := μ3) (x := q) (lo := 0) (hi := 3) hq ⟨by omega, by omega⟩ ⟨by omega, by omega⟩
      rw [if_pos (by omega)] at i1
      rw [if_neg c2] at i2
      obtain ⟨μ4, g1, g2, g3⟩ := m_good2 (μ := μ3) (a := 1) (b := 0) (Or.inr rfl) (Or.inl rfl)
      refine JT.mk (k := 2) (b := 0) R ?_ f1 ?_ ((d4.n (by decide)).tr g2.n) (d2.kp (g2.1 79 (by decide))) g3 (fun z => absurd z (by decide))
      · have el1 : fX7_length μ1 = some (lsz e.2.1 e.2.2.1) := congrArg some b2
        unfold fL_switchAt fX9_switchAt
        rw [e0, b1, obs, hp.w, if_neg (by omega), el1, obs, wr_id (by omega) (by omega), if_pos c1.2, aw]
        rfl
      · unfold fX10_switchAt
        rw [qLd_in (by omega), obs, e1, d1, obs, i1, obs, i2, obs, g1]
        rfl
  · have e1 : rd μ1 79 1 = e.2.1 := R1.2.2.1.2.1
    obtain ⟨μ3, d1, d2, d3, d4⟩ := m_laysList (p := e.2.1) hn R1.2.2.1 R.1.1 R.1.2.1 hm
    have i1 := m_isInG (μ := μ3) (x := p) (lo := 0) (hi := lsz e.2.1 e.2.2.1 - 1) hp ⟨by omega, by omega⟩ ⟨by omega, by omega⟩
    have i2 := m_isInG (μ := μ3) (x := q) (lo := 0) (hi := 3) hq ⟨by omega, by omega⟩ ⟨by omega, by omega⟩
    rw [if_neg (by omega)] at i1
    obtain ⟨μ4, g1, g2, g3⟩ := m_good2 (μ := μ3) (a := 0) (b := if 0 ≤ q ∧ q ≤ 3 then 1 else 0) (Or.inl rfl) (by split; exact Or.inr rfl; exact Or.inl rfl)
    refine JT.mk (k := 1) (b := 0) R ?_ f1 ?_ ((d4.n (by decide)).tr g2.n) (d2.kp (g2.1 79 (by decide))) g3 (fun z => absurd z (by decide))
    · have el1 : fX7_length μ1 = some (lsz e.2.1 e.2.2.1) := congrArg some b2
      unfold fL_switchAt fX9_switchAt
      rw [e0, b1, obs, hp.w]
      by_cases c3 : p < 0
      · rw [if_pos c3]
        rfl
      · rw [if_neg c3, el1, obs, wr_id (by omega) (by omega), if_neg (by omega)]
        rfl
    · unfold fX10_switchAt
      rw [qLd_in (by omega), obs, e1, d1, obs, i1, obs, i2, obs, g1, obs, if_neg (show ¬ ((0 : Int) = 1 ∧ _) from fun z => absurd z.1 (by decide))]
      rfl
theorem j_nearest (hn : 5000 ≤ n) (R : RR μ e pp h E) : JT (fun x => x) (fL_nearest n) (fX10_nearest n) μ := by
  have hm := R.1.mr
  have e0 : rd μ 0 11 = e.2.1 := R.2.1.2.2
  obtain ⟨μ1, b1, b2⟩ := x_nearest hn R.2.1.1 R.1.1 R.2.1.2.1.1 R.1.2.1 e0 hm
  have f1 : FC μ μ1 := b1.c (by decide)
  have hsz := lsz_le (p := e.2.1) R.1.1
  rcases b2 with ⟨z, b2⟩ | ⟨z, r, hr, b2⟩
  · have R1 := R.c f1
    obtain ⟨μ2, d1, d2, d3, d4⟩ := m_nearest hn R1.2.2.1 R.1.1 R.1.2.1 hm
    rcases d4 with ⟨z2, d4, d5⟩ | ⟨z2, -⟩
    · refine JT.mk (k := 1) (b := 0) R ?_ f1 d4 ⟨d1.wk (by decide), d3⟩ d2 d5 (fun z => absurd z (by decide))
      unfold fL_nearest
      rw [b2]
      rfl
    · omega
  · have hr0 := hr.1
    have f2 : FC μ (up μ1 92 0 r) := f1.tr (FC.at92 _ _)
    have R1 := R.c f2
    obtain ⟨μ2, d1, d2, d3, d4⟩ := m_nearest hn R1.2.2.1 R.1.1 R.1.2.1 hm
    rcases d4 with ⟨z2, -⟩ | ⟨z2, r2, hr2, d4, d5⟩
    · omega
    · have er := hr.uniq hr2
      subst er
      refine JT.mk (k := 0) (b := r) R ?_ f2 d4 ⟨d1.wk (by decide), d3⟩ d2 d5 (fun _ => at92 ⟨by omega, by omega⟩)
      unfold fL_nearest
      rw [b2, obs, Sum.elim_inl, put92]
      rfl
theorem PL.uniqr {t c : Int → Int → Int} {L L' : Nat} (h : PL t c L) (h' : PL t c L') : L = L' := by
  rcases Nat.lt_trichotomy L L' with q | q | q
  · exact absurd h.2 (h'.1 L q)
  · exact q
  · exact absurd h'.2 (h.1 L' q)
theorem m_alike (hn : 5000 ≤ n) (hC : CM μ e) (hE : EV e) (ha : alk e.2.2.1 e.2.2.2) : fX10_areAlike n μ = some 1 := by
  obtain ⟨b, h1, h2⟩ := m_areAlike hn hC.2.2.1 hE.1 hC.2.2.2 hE.2.1
  rcases h2 with h2 | h2
  · rw [h1, h2.1]
  · exact absurd ha h2.2
theorem m_unlike (hn : 5000 ≤ n) (hC : CM μ e) (hE : EV e) (ha : ¬ alk e.2.2.1 e.2.2.2) : fX10_areAlike n μ = some 0 := by
  obtain ⟨b, h1, h2⟩ := m_areAlike hn hC.2.2.1 hE.1 hC.2.2.2 hE.2.1
  rcases h2 with h2 | h2
  · exact absurd h2.2 ha
  · rw [h1, h2.1]
theorem j_pathLength (hn : 5000 ≤ n) (R : RR μ e pp h E) : JT (fun x => x) (fL_pathLength n) (fX10_pathLength n) μ := by
  rcases x_checkAlike hn R.2.1.1.1 R.1.1 R.2.1.2.1.1 R.1.2.1 with ⟨ha, a1⟩ | ⟨ha, a1⟩
  · obtain ⟨L, μ1, b1, b2, b3, b4, b5, b6⟩ := x_pathFind hn R.2.1.1 R.2.1.2.1.1 R.1.1 R.1.2.1 ha
    have f1 : FC μ (up μ1 92 0 (L : Int)) := (b6.c (by decide)).tr (FC.at92 _ _)
    have R1 := R.c f1
    have R2 : CM (up (up μ1 92 0 (L : Int)) 78 4 0) e := R1.2.2.1.kp (up_ne (by decide))
    obtain ⟨L', μ2, d1, d2, d3, d4, d5, d6⟩ := m_laysPath hn R2 R.1.1 R.1.2.1 ha
    have eL := b2.uniqr d2
    subst eL
    refine JT.mk (k := 0) (b := (L : Int)) R ?_ f1 ?_ ((FN.t4 _ 0).tr (d6.n (by decide))) d5 ?_ (fun _ => at92 ⟨by omega, by omega⟩)
    · have el : fX8_length μ1 = some (L : Int) := congrArg some b4
      unfold fL_pathLength fX9_pathLength
      rw [a1, obs, Sum.elim_inl, b1, obs, el, obs, obs, Sum.elim_inl, put92]
      rfl
    · unfold fX10_pathLength
      rw [m_alike hn R1.2.2.1 R.1 ha, obs, m_good1 rfl, obs, if_neg (show ¬ wr 1 = 0 by decide), d1]
      rfl
    · rw [rd_cg (d6 78 (by decide)), rd_at]
      rfl
  · refine JT.mk (k := 1) (b := 0) R ?_ (FC.rf μ) ?_ (FN.t4 _ 1) (R.2.2.1.kp (up_ne (by decide))) rd_at (fun z => absurd z (by decide))
    · unfold fL_pathLength fX9_pathLength
      rw [a1]
      rfl
    · unfold fX10_pathLength
      rw [m_unlike hn R.2.2.1 R.1 ha, obs, m_good0 rfl]
      rfl
theorem m_isI01 {p lo hi : Int} (hp : I32 p) (hl : I32 lo) (hh : I32 hi) (ν : qMu) : ∃ y : Int, fX10_isIn p lo hi ν = some y ∧ (y = 0 ∨ y = 1) := by
  refine ⟨_, m_isInG hp hl hh, ?_⟩
  split
  · exact Or.inr rfl
  · exact Or.inl rfl
theorem nxT_r {N : Int} {c t : Int → Int → Int} (hV : Vd N c) (hV' : Vd N t) (ha : alk c t) (hx : nxT t c ≠ -1) : 0 ≤ nxT t c ∧ nxT t c < 4096 := by
  rcases nx_ok hV hV' ha with h | h
  · exact absurd h.2.1 hx
  · exact h.2.2.2.2.2.1.1
theorem pth_okr {N : Int} {c t : Int → Int → Int} (hV : Vd N c) (hV' : Vd N t) (ha : alk c t) {L : Nat} (hL : PL t c L) {i : Nat} (hi : i < L) : 0 ≤ nxT t (pth t c i) ∧ nxT t (pth t c i) < 4096 := by
  have h := pth_ok hV hV' ha i
  exact nxT_r h.1 hV' h.2.1 (hL.1 i hi)
theorem j_path {p q : Int} (hn : 5000 ≤ n) (R : RR μ e pp h E) (hp : I32 p) (hq : I32 q) : JT (fun x => x) (fL_path n p q) (fX10_path n p q) μ := by
  have hp' : -2147483648 ≤ p ∧ p ≤ 2147483647 := hp
  rcases x_checkAlike hn R.2.1.1.1 R.1.1 R.2.1.2.1.1 R.1.2.1 with ⟨ha, a1⟩ | ⟨ha, a1⟩
  · obtain ⟨L, μ1, b1, b2, b3, b4, b5, b6⟩ := x_pathFind hn R.2.1.1 R.2.1.2.1.1 R.1.1 R.1.2.1 ha
    have f1 : FC μ μ1 := b6.c (by decide)
    have R1 := R.c f1
    have aw := x_cw (μ := μ1) hq
    have el : fX8_length μ1 = some (L : Int) := congrArg some b4
    have i2 := fun ν => m_isInG (μ := ν) (x := q) (lo := 0) (hi := 3) hq ⟨by omega, by omega⟩ ⟨by omega, by omega⟩
    have i1 := fun ν => m_isInG (μ := ν) (x := p) (lo := 0) (hi := (L : Int) - 1) hp ⟨by omega, by omega⟩ ⟨by omega, by omega⟩
    by_cases c1 : 0 ≤ p ∧ p < (L : Int)
    · simp only [if_pos (show 0 ≤ p ∧ p ≤ (L : Int) - 1 by omega)] at i1
      have hpn : ((p.toNat : Nat) : Int) = p := by omega
      have hk := pth_okr R.1.1 R.1.2.1 ha b2 (i := p.toNat) (by omega)
      by_cases c2 : 0 ≤ q ∧ q ≤ 3
      · rw [if_pos c2] at aw
        simp only [if_pos c2] at i2
        have hv := ptv_r (nxT e.2.2.2 (pth e.2.2.2 e.2.2.1 p.toNat)) q
        have f2 : FC μ (up μ1 92 0 (ptv (nxT e.2.2.2 (pth e.2.2.2 e.2.2.1 p.toNat)) q)) := f1.tr (FC.at92 _ _)
        have R2 := R.c f2
        obtain ⟨L', μ3, d1, d2, d3, d4, d5, d6⟩ := m_laysPath hn R2.2.2.1 R.1.1 R.1.2.1 ha
        have eL := b2.uniqr d2
        subst eL
        obtain ⟨μ4, g1, g2, g3⟩ := m_good3 (μ := μ3) (a := 1) (b := 1) (c := 1) (Or.inr rfl) (Or.inr rfl) (Or.inr rfl)
        rw [if_pos ⟨rfl, rfl, rfl⟩] at g1
        have e4 : rd μ4 90 p = nxT e.2.2.2 (pth e.2.2.2 e.2.2.1 p.toNat) := by
          have := d4 p.toNat (by omega)
          rw [hpn] at this
          exact (rd_cg (g2.1 90 (by decide)) p).trans this
        have e3 : rd μ1 29 p = nxT e.2.2.2 (pth e.2.2.2 e.2.2.1 p.toNat) := by
          have := b5 p.toNat (by omega)
          rw [hpn] at this
          exact this
        refine JT.mk (k := 0) (b := ptv (nxT e.2.2.2 (pth e.2.2.2 e.2.2.1 p.toNat)) q) R ?_ f2 ?_ ((d6.n (by decide)).tr g2.n) (d5.kp (g2.1 79 (by decide))) g3 (fun _ => at92 ⟨by omega, by omega⟩)
        · have ec : fX8_codeAt p μ1 = some (nxT e.2.2.2 (pth e.2.2.2 e.2.2.1 p.toNat)) := by
            unfold fX8_codeAt
            rw [qLd_in (by omega), obs, e3]
          unfold fL_path fX9_path
          rw [a1, obs, Sum.elim_inl, b1, obs, hp.w, if_neg (by omega), el, obs, wr_id (by omega) (by omega), if_pos c1.2, aw, obs, Sum.elim_inl, ec, obs, x_ptv hk c2, obs, obs, Sum.elim_inl, put92]
          rfl
        · unfold fX10_path
          rw [m_alike hn R2.2.2.1 R.1 ha, obs, if_neg (show ¬ wr 1 = 0 by decide), d1, obs, obs, i1, obs, i2, obs, g1, obs, if_neg n1w, qLd_in (by omega), obs, e4, m_ptv hk c2]
          rfl
      · rw [if_neg c2] at aw
        simp only [if_neg c2] at i2
        obtain ⟨L', μ3, d1, d2, d3, d4, d5, d6⟩ := m_laysPath hn R1.2.2.1 R.1.1 R.1.2.1 ha
        have eL := b2.uniqr d2
        subst eL
        obtain ⟨μ4, g1, g2, g3⟩ := m_good3 (μ := μ3) (a := 1) (b := 1) (c := 0) (Or.inr rfl) (Or.inr rfl) (Or.inl rfl)
        refine JT.mk (k := 3) (b := 0) R ?_ f1 ?_ ((d6.n (by decide)).tr g2.n) (d5.kp (g2.1 79 (by decide))) g3 (fun z => absurd z (by decide))
        · unfold fL_path fX9_path
          rw [a1, obs, Sum.elim_inl, b1, obs, hp.w, if_neg (by omega), el, obs, wr_id (by omega) (by omega), if_pos c1.2, aw]
          rfl
        · unfold fX10_path
          rw [m_alike hn R1.2.2.1 R.1 ha, obs, if_neg (show ¬ wr 1 = 0 by decide), d1, obs, obs, i1, obs, i2, obs, g1]
          rfl
    · simp only [if_neg (show ¬ (0 ≤ p ∧ p ≤ (L : Int) - 1) by omega)] at i1
      obtain ⟨L', μ3, d1, d2, d3, d4, d5, d6⟩ := m_laysPath hn R1.2.2.1 R.1.1 R.1.2.1 ha
      have eL := b2.uniqr d2
      subst eL
      obtain ⟨μ4, g1, g2, g3⟩ := m_good3 (μ := μ3) (a := 1) (b := 0) (c := if 0 ≤ q ∧ q ≤ 3 then 1 else 0) (Or.inr rfl) (Or.inl rfl) (by split; exact Or.inr rfl; exact Or.inl rfl)
      refine JT.mk (k := 2) (b := 0) R ?_ f1 ?_ ((d6.n (by decide)).tr g2.n) (d5.kp (g2.1 79 (by decide))) g3 (fun z => absurd z (by decide))
      · unfold fL_path fX9_path
        rw [a1, obs, Sum.elim_inl, b1, obs, hp.w]
        by_cases c3 : p < 0
        · rw [if_pos c3]
          rfl
        · rw [if_neg c3, el, obs, wr_id (by omega) (by omega), if_neg (by omega)]
          rfl
      · unfold fX10_path
        rw [m_alike hn R1.2.2.1 R.1 ha, obs, if_neg (show ¬ wr 1 = 0 by decide), d1, obs, obs, i1, obs, i2, obs, g1, obs, if_neg (show ¬ ((1 : Int) = 1 ∧ (0 : Int) = 1 ∧ _) from fun z => absurd z.2.1 (by decide))]
        rfl
  · have i1 := m_isI01 (p := p) (lo := 0) (hi := 0 - 1) hp ⟨by omega, by omega⟩ ⟨by omega, by omega⟩ μ
    have i2 := m_isI01 (p := q) (lo := 0) (hi := 3) hq ⟨by omega, by omega⟩ ⟨by omega, by omega⟩ μ
    obtain ⟨y1, i1, h1⟩ := i1
    obtain ⟨y2, i2, h2⟩ := i2
    obtain ⟨μ4, g1, g2, g3⟩ := m_good3 (μ := μ) (a := 0) (b := y1) (c := y2) (Or.inl rfl) h1 h2
    refine JT.mk (k := 1) (b := 0) R ?_ (FC.rf μ) ?_ g2.n (R.2.2.1.kp (g2.1 79 (by decide))) g3 (fun z => absurd z (by decide))
    · unfold fL_path fX9_path
      rw [a1]
      rfl
    · unfold fX10_path
      rw [m_unlike hn R.2.2.1 R.1 ha, obs, if_pos (show wr 0 = 0 from rfl), obs, i1, obs, i2, obs, g1, obs, if_neg (show ¬ ((0 : Int) = 1 ∧ _) from fun z => absurd z.1 (by decide))]
      rfl
theorem dst_r (c t : Int → Int → Int) : 0 ≤ dst c t ∧ dst c t ≤ 3 := by
  unfold dst
  split
  · omega
  · split
    · omega
    · split <;> omega
theorem j_distance (hn : 5000 ≤ n) (R : RR μ e pp h E) : JT (fun x => x) (fL_distance n) (fX10_distance n) μ := by
  rcases x_checkAlike hn R.2.1.1.1 R.1.1 R.2.1.2.1.1 R.1.2.1 with ⟨ha, a1⟩ | ⟨ha, a1⟩
  · obtain ⟨μ1, b1, b2⟩ := x_distance hn R.2.1.1 R.1.1 R.2.1.2.1.1 R.1.2.1 ha
    have hd := dst_r e.2.2.1 e.2.2.2
    have f1 : FC μ (up μ1 92 0 (dst e.2.2.1 e.2.2.2)) := (b2.c (by decide)).tr (FC.at92 _ _)
    have R1 := R.c f1
    obtain ⟨d0, μ2, d1, d2, d3⟩ := m_distance hn R1.2.2.1 R.1.1 R.1.2.1 ha
    refine JT.mk (k := 0) (b := dst e.2.2.1 e.2.2.2) R ?_ f1 d1 ((FN.t4 _ 0).tr (d3.n (by decide))) d2 ?_ (fun _ => at92 ⟨by omega, by omega⟩)
    · unfold fL_distance
      rw [b1, obs, Sum.elim_inl, put92]
      rfl
    · rw [rd_cg (d3 78 (by decide)), rd_at]
      rfl
  · refine JT.mk (k := 1) (b := 0) R ?_ (FC.rf μ) ?_ (FN.t4 _ 1) (R.2.2.1.kp (up_ne (by decide))) rd_at (fun z => absurd z (by decide))
    · unfold fL_distance fX9_distance
      rw [a1]
      rfl
    · unfold fX10_distance
      rw [m_unlike hn R.2.2.1 R.1 ha, obs, m_good0 rfl]
      rfl
theorem j_written {p : Int} (R : RR μ e pp h E) (hp : I32 p) : JT (fun x => x) (fL_written p) (fX10_written p) μ := by
  have hp' : -2147483648 ≤ p ∧ p ≤ 2147483647 := hp
  obtain ⟨w, w1, w2, w3, w4⟩ := R.2.2.2.2.2.2.2.2
  have hw0 := w3.1
  have el : fX3_length μ = some w.1 := congrArg some w1.1
  have i1 := fun ν => m_isInG (μ := ν) (x := p) (lo := 0) (hi := w.1 - 1) hp ⟨by omega, by omega⟩ ⟨by omega, by omega⟩
  by_cases c : 0 ≤ p ∧ p < w.1
  · have hv := w3.2 p c.1 c.2
    simp only [if_pos (show 0 ≤ p ∧ p ≤ w.1 - 1 by omega)] at i1
    have eq : qch (w.2 p) = some (w.2 p) := if_pos hv
    have f1 : FC μ (up μ 92 0 (w.2 p)) := FC.at92 _ _
    have R1 := R.c f1
    have e26 : rd (up μ 92 0 (w.2 p)) 78 26 = w.1 := (rd_na (by decide)).trans w2.1
    have e91 : rd (up (up μ 92 0 (w.2 p)) 78 4 0) 91 p = w.2 p := ((rd_na (by decide)).trans (rd_na (by decide))).trans (w2.2 p c.1 c.2)
    refine JT.mk (k := 0) (b := w.2 p) R ?_ f1 ?_ (FN.t4 _ 0) (R1.2.2.1.kp (up_ne (by decide))) rd_at (fun _ => at92 ⟨by omega, by omega⟩)
    · have es : fX3_signAt p μ = some (w.2 p) := by
        unfold fX3_signAt
        rw [qLd_in (by omega), obs, w1.2 p c.1 c.2, eq]
        rfl
      unfold fL_written fX9_written
      rw [hp.w, if_neg (by omega), el, obs, wr_id (by omega) (by omega), if_pos c.2, es, obs, eq, obs, obs, Sum.elim_inl, put92]
      rfl
    · unfold fX10_written
      rw [e26, i1, obs, m_good1 rfl, obs, if_neg (show ¬ wr 1 = 0 by decide), qLd_in (by omega), obs, e91, (nrc (by omega)).2, eq]
      rfl
  · simp only [if_neg (show ¬ (0 ≤ p ∧ p ≤ w.1 - 1) by omega)] at i1
    refine JT.mk (k := 1) (b := 0) R ?_ (FC.rf μ) ?_ (FN.t4 _ 1) (R.2.2.1.kp (up_ne (by decide))) rd_at (fun z => absurd z (by decide))
    · unfold fL_written fX9_written
      rw [hp.w]
      by_cases c3 : p < 0
      · rw [if_pos c3]
        rfl
      · rw [if_neg c3, el, obs, wr_id (by omega) (by omega), if_neg (by omega)]
        rfl
    · unfold fX10_written
      rw [w2.1, i1, obs, m_good0 rfl]
      rfl
end CA3
