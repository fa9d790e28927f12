/-! WRITING, in both -/
abbrev qWs : Type := Int × (Int → Int)
def psh (w : qWs) (x : Int) : qWs := (w.1 + 1, fun i => if i = w.1 then x else w.2 i)
def wre (w : qWs) (u v k : Int) : qWs :=
  if 1 < k then psh (if 9 < k then psh (psh (psh (psh (psh (if 0 < w.1 then psh w 32 else w) (48 + u)) 45) (48 + v)) 120) (48 + k / 10) else psh (psh (psh (psh (if 0 < w.1 then psh w 32 else w) (48 + u)) 45) (48 + v)) 120) (48 + k % 10)
  else psh (psh (psh (if 0 < w.1 then psh w 32 else w) (48 + u)) 45) (48 + v)
def wri (c : Int → Int → Int) (u : Int) : Nat → Int → qWs → qWs
  | 0, _, w => w
  | j + 1, v, w => wri c u j (v + 1) (if 0 < c u v then wre w u v (c u v) else w)
def wro (c : Int → Int → Int) : Nat → Int → qWs → qWs
  | 0, _, w => w
  | j + 1, u, w => wro c j (u + 1) (wri c u (8 - u).toNat u w)
def XW (μ : qMu) (w : qWs) : Prop := rd μ 76 1 = w.1 ∧ ∀ i, 0 ≤ i → i < w.1 → rd μ 77 i = w.2 i
def MW (μ : qMu) (w : qWs) : Prop := rd μ 78 26 = w.1 ∧ ∀ i, 0 ≤ i → i < w.1 → rd μ 91 i = w.2 i
def WR (w : qWs) : Prop := 0 ≤ w.1 ∧ ∀ i, 0 ≤ i → i < w.1 → 0 ≤ w.2 i ∧ w.2 i < 128
theorem WR.psh {w : qWs} (h : WR w) {x : Int} (hx : 0 ≤ x ∧ x < 128) : WR (psh w x) := by
  obtain ⟨h1, h2⟩ := h
  refine ⟨by show 0 ≤ w.1 + 1; omega, fun i i1 i2 => ?_⟩
  have i2' : i < w.1 + 1 := i2
  show 0 ≤ (if i = w.1 then x else w.2 i) ∧ (if i = w.1 then x else w.2 i) < 128
  by_cases q : i = w.1
  · rw [if_pos q]
    exact hx
  · rw [if_neg q]
    exact h2 i i1 (by omega)
theorem nrc_all : ∀ k : Nat, k < 128 → qNr .char (k : Int) = (k : Int) ∧ i2c (k : Int) = (k : Int) := by decide +kernel
theorem nrc {x : Int} (hx : 0 ≤ x ∧ x < 128) : qNr .char x = x ∧ i2c x = x := by
  have := nrc_all x.toNat (by omega)
  rw [show ((x.toNat : Nat) : Int) = x by omega] at this
  exact this
theorem dv10_all : ∀ k : Nat, k < 100 → idv (k : Int) 10 = ((k / 10 : Nat) : Int) ∧ irm (k : Int) 10 = ((k % 10 : Nat) : Int) := by decide +kernel
theorem dv10 {k : Int} (h : 0 ≤ k ∧ k < 100) : idv k 10 = k / 10 ∧ irm k 10 = k % 10 := by
  have := dv10_all k.toNat (by omega)
  rw [show ((k.toNat : Nat) : Int) = k by omega] at this
  obtain ⟨h1, h2⟩ := this
  rw [h1, h2]
  omega
theorem x_edges_len {w : qWs} {u v k : Int} (hw : WR w) (hu : 0 ≤ u ∧ u < 8) (hv : 0 ≤ v ∧ v < 8) (hk : 1 ≤ k ∧ k ≤ 16) : WR (wre w u v k) ∧ (wre w u v k).1 ≤ w.1 + 4 * k := by
  have h0 := hw.1
  have a4 : WR (if 0 < w.1 then psh w 32 else w) ∧ (if 0 < w.1 then psh w 32 else w).1 ≤ w.1 + 1 := by
    by_cases q : 0 < w.1
    · rw [if_pos q]
      exact ⟨hw.psh (by omega), Int.le_refl _⟩
    · rw [if_neg q]
      exact ⟨hw, by omega⟩
  unfold wre
  generalize (if 0 < w.1 then psh w 32 else w) = w1 at *
  have d4 := ((a4.1.psh (x := 48 + u) (by omega)).psh (x := 45) (by omega)).psh (x := 48 + v) (by omega)
  have l4 : (psh (psh (psh w1 (48 + u)) 45) (48 + v)).1 = w1.1 + 1 + 1 + 1 := rfl
  generalize psh (psh (psh w1 (48 + u)) 45) (48 + v) = w4 at *
  by_cases q : 1 < k
  · rw [if_pos q]
    have e4 := d4.psh (x := 120) (by omega)
    have l5 : (psh w4 120).1 = w4.1 + 1 := rfl
    generalize psh w4 120 = w5 at *
    by_cases q2 : 9 < k
    · rw [if_pos q2]
      refine ⟨(e4.psh (by omega)).psh (by omega), ?_⟩
      show w5.1 + 1 + 1 ≤ _
      omega
    · rw [if_neg q2]
      refine ⟨e4.psh (by omega), ?_⟩
      show w5.1 + 1 ≤ _
      omega
  · rw [if_neg q]
    exact ⟨d4, by omega⟩
section WRT
variable {μ : qMu} {n : Nat} {w : qWs} {N : Int} {c t : Int → Int → Int}
theorem x_app (h : XW μ w) (hw : WR w) (hl : w.1 < 64) {x : Int} (hx : 0 ≤ x ∧ x < 128) : ∃ μ', fX3_append x μ = some μ' ∧ XW μ' (psh w x) ∧ Fr [76, 77] μ μ' := by
  have h0 := hw.1
  have e1 : ∀ v, rd (up μ 77 w.1 v) 76 1 = w.1 := fun v => (rd_na (by decide)).trans h.1
  refine ⟨up (up μ 77 w.1 x) 76 1 (w.1 + 1), ?_, ⟨?_, fun i i1 i2 => ?_⟩, (Fr.up (by simp)).tr (Fr.up (by simp))⟩
  · simp (disch := omega) only [ite_true, fX3_append, h.1, wr_id, if_pos, qSa_in, (nrc hx).1, qPf_eq, e1, Option.bind_some]
  · rw [rd_at]
    exact wr_id (by omega) (by omega)
  · have i2' : i < w.1 + 1 := i2
    rw [rd_na (by decide)]
    show _ = if i = w.1 then x else w.2 i
    by_cases q : i = w.1
    · rw [if_pos q, q, rd_at]
      exact wr_id (by omega) (by omega)
    · rw [if_neg q, rd_ni q]
      exact h.2 i i1 (by omega)
theorem x_dig (h : XW μ w) (hw : WR w) (hl : w.1 < 64) {x : Int} (hx : 0 ≤ x ∧ x < 10) : ∃ μ', fX3_printDigit x μ = some μ' ∧ XW μ' (psh w (48 + x)) ∧ Fr [76, 77] μ μ' := by
  obtain ⟨μ', a1, a2, a3⟩ := x_app h hw hl (x := 48 + x) (by omega)
  refine ⟨μ', ?_, a2, a3⟩
  have e1 : i2c (48 + x) = 48 + x := (nrc (by omega)).2
  unfold fX3_printDigit
  rw [e1, a1]
  rfl
theorem m_say (h : MW μ w) (hw : WR w) (hl : w.1 < 150) {x : Int} (hx : 0 ≤ x ∧ x < 128) : ∃ μ', fX10_says x μ = some μ' ∧ MW μ' (psh w x) ∧ Fr [78, 91] μ μ' ∧ ∀ i, i ≠ 26 → rd μ' 78 i = rd μ 78 i := by
  have h0 := hw.1
  have e1 : ∀ v, rd (up μ 91 w.1 v) 78 26 = w.1 := fun v => (rd_na (by decide)).trans h.1
  refine ⟨up (up μ 91 w.1 x) 78 26 (w.1 + 1), ?_, ⟨?_, fun i i1 i2 => ?_⟩, (Fr.up (by simp)).tr (Fr.up (by simp)), fun i hi => (rd_ni hi).trans (rd_na (by decide))⟩
  · simp (disch := omega) only [ite_true, fX10_says, h.1, qSa_in, qPf_eq, e1, Option.bind_some]
  · rw [rd_at]
    exact wr_id (by omega) (by omega)
  · have i2' : i < w.1 + 1 := i2
    rw [rd_na (by decide)]
    show _ = if i = w.1 then x else w.2 i
    by_cases q : i = w.1
    · rw [if_pos q, q, rd_at]
      exact wr_id (by omega) (by omega)
    · rw [if_neg q, rd_ni q]
      exact h.2 i i1 (by omega)
theorem m_dig {k : Nat} (h : MW μ w) (hw : WR w) (hl : w.1 < 150) {x : Int} (hx : 0 ≤ x ∧ x < 10) : ∃ μ', fX10_saysNumber (k + 1) x μ = some μ' ∧ MW μ' (psh w (48 + x)) ∧ Fr [78, 91] μ μ' ∧ ∀ i, i ≠ 26 → rd μ' 78 i = rd μ 78 i := by
  obtain ⟨μ', a1, a2, a3⟩ := m_say h hw hl (x := 48 + x) (by omega)
  refine ⟨μ', ?_, a2, a3⟩
  have e1 : irm x 10 = x := by
    rw [(dv10 (by omega)).2]
    omega
  simp (disch := omega) only [ite_true, fX10_saysNumber, e1, wr_id, if_neg, a1, Option.bind_some]
/-- the edges between two vertices -/
theorem x_edges {u v k : Int} (h : XW μ w) (hw : WR w) (hu : 0 ≤ u ∧ u < 8) (hv : 0 ≤ v ∧ v < 8) (hk : 1 ≤ k ∧ k ≤ 16) (hl : w.1 + 4 * k ≤ 64) : ∃ μ', fX3_printEdges u v k μ = some μ' ∧ XW μ' (wre w u v k) ∧ Fr [76, 77] μ μ' ∧ WR (wre w u v k) ∧ (wre w u v k).1 ≤ w.1 + 4 * k := by
  have h0 := hw.1
  obtain ⟨μ1, a1, a2, a3, a4, a5⟩ : ∃ μ1, (if 0 < wr (rd μ 76 1) then (fX3_append 32 μ).bind fun y3 => some y3 else some μ : Option qMu) = some μ1 ∧ XW μ1 (if 0 < w.1 then psh w 32 else w) ∧ Fr [76, 77] μ μ1 ∧ WR (if 0 < w.1 then psh w 32 else w) ∧ (if 0 < w.1 then psh w 32 else w).1 ≤ w.1 + 1 := by
    rw [h.1, wr_id (by omega) (by omega)]
    by_cases q : 0 < w.1
    · obtain ⟨μ1, b1, b2, b3⟩ := x_app h hw (by omega) (x := 32) (by omega)
      rw [if_pos q, if_pos q, b1]
      exact ⟨μ1, rfl, b2, b3, hw.psh (by omega), Int.le_refl _⟩
    · rw [if_neg q, if_neg q]
      exact ⟨μ, rfl, h, Fr.rf _ _, hw, by omega⟩
  unfold wre
  generalize (if 0 < w.1 then psh w 32 else w) = w1 at *
  have h1 := a4.1
  obtain ⟨μ2, b1, b2, b3⟩ := x_dig a2 a4 (by omega) (x := u) (by omega)
  have b4 := a4.psh (x := 48 + u) (by omega)
  have l2 : (psh w1 (48 + u)).1 = w1.1 + 1 := rfl
  generalize psh w1 (48 + u) = w2 at *
  obtain ⟨μ3, c1, c2, c3⟩ := x_app b2 b4 (by omega) (x := 45) (by omega)
  have c4 := b4.psh (x := 45) (by omega)
  have l3 : (psh w2 45).1 = w2.1 + 1 := rfl
  generalize psh w2 45 = w3 at *
  obtain ⟨μ4, d1, d2, d3⟩ := x_dig c2 c4 (by omega) (x := v) (by omega)
  have d4 := c4.psh (x := 48 + v) (by omega)
  have l4 : (psh w3 (48 + v)).1 = w3.1 + 1 := rfl
  generalize psh w3 (48 + v) = w4 at *
  have f4 : Fr [76, 77] μ μ4 := ((a3.tr b3).tr c3).tr d3
  by_cases q : 1 < k
  · rw [if_pos q]
    obtain ⟨μ5, e1, e2, e3⟩ := x_app d2 d4 (by omega) (x := 120) (by omega)
    have e4 := d4.psh (x := 120) (by omega)
    have l5 : (psh w4 120).1 = w4.1 + 1 := rfl
    generalize psh w4 120 = w5 at *
    obtain ⟨i1, i2⟩ := dv10 (k := k) (by omega)
    obtain ⟨μ6, g1, g2, g3, g4, g5⟩ : ∃ μ6, (if 9 < wr k then (fX3_printDigit (idv k 10) μ5).bind fun y11 => some y11 else some μ5 : Option qMu) = some μ6 ∧ XW μ6 (if 9 < k then psh w5 (48 + k / 10) else w5) ∧ Fr [76, 77] μ5 μ6 ∧ WR (if 9 < k then psh w5 (48 + k / 10) else w5) ∧ (if 9 < k then psh w5 (48 + k / 10) else w5).1 ≤ w5.1 + (if 9 < k then 1 else 0) := by
      rw [wr_id (by omega) (by omega), i1]
      by_cases q2 : 9 < k
      · obtain ⟨μ6, j1, j2, j3⟩ := x_dig e2 e4 (by omega) (x := k / 10) (by omega)
        rw [if_pos q2, if_pos q2, if_pos q2, j1]
        exact ⟨μ6, rfl, j2, j3, e4.psh (by omega), Int.le_refl _⟩
      · rw [if_neg q2, if_neg q2, if_neg q2]
        exact ⟨μ5, rfl, e2, Fr.rf _ _, e4, by omega⟩
    have l6 : (if 9 < k then (1 : Int) else 0) ≤ 1 ∧ (k ≤ 9 → (if 9 < k then (1 : Int) else 0) = 0) := by split <;> omega
    generalize (if 9 < k then psh w5 (48 + k / 10) else w5) = w6 at *
    have h6 := g4.1
    obtain ⟨μ7, j1, j2, j3⟩ := x_dig g2 g4 (by omega) (x := k % 10) (by omega)
    refine ⟨μ7, ?_, j2, ((f4.tr e3).tr g3).tr j3, g4.psh (by omega), ?_⟩
    · unfold fX3_printEdges
      rw [a1, obs, b1, obs, c1, obs, d1, obs, if_pos (by rw [wr_id (by omega) (by omega)]; exact q), e1, obs, g1, obs, i2, j1]
      rfl
    · show w6.1 + 1 ≤ _
      omega
  · rw [if_neg q]
    refine ⟨μ4, ?_, d2, f4, d4, by omega⟩
    unfold fX3_printEdges
    rw [a1, obs, b1, obs, c1, obs, d1, obs, if_neg (by rw [wr_id (by omega) (by omega)]; exact q)]
theorem m_edges {u v k : Int} (h : MW μ w) (hw : WR w) (hu : 0 ≤ u ∧ u < 8) (hv : 0 ≤ v ∧ v < 8) (hk : 1 ≤ k ∧ k ≤ 16) (hl : w.1 + 4 * k ≤ 64) : ∃ μ', fX10_saysEdges u v k μ = some μ' ∧ MW μ' (wre w u v k) ∧ Fr [78, 91] μ μ' ∧ ∀ i, i ≠ 26 → rd μ' 78 i = rd μ 78 i := by
  have h0 := hw.1
  obtain ⟨μ1, a1, a2, a3, a6, a4, a5⟩ : ∃ μ1, (if 0 < wr (rd μ 78 26) then (fX10_says 32 μ).bind fun y3 => some y3 else some μ : Option qMu) = some μ1 ∧ MW μ1 (if 0 < w.1 then psh w 32 else w) ∧ Fr [78, 91] μ μ1 ∧ (∀ i, i ≠ 26 → rd μ1 78 i = rd μ 78 i) ∧ WR (if 0 < w.1 then psh w 32 else w) ∧ (if 0 < w.1 then psh w 32 else w).1 ≤ w.1 + 1 := by
    rw [h.1, wr_id (by omega) (by omega)]
    by_cases q : 0 < w.1
    · obtain ⟨μ1, b1, b2, b3, b4⟩ := m_say h hw (by omega) (x := 32) (by omega)
      rw [if_pos q, if_pos q, b1]
      exact ⟨μ1, rfl, b2, b3, b4, hw.psh (by omega), Int.le_refl _⟩
    · rw [if_neg q, if_neg q]
      exact ⟨μ, rfl, h, Fr.rf _ _, fun _ _ => rfl, hw, by omega⟩
  unfold wre
  generalize (if 0 < w.1 then psh w 32 else w) = w1 at *
  have h1 := a4.1
  obtain ⟨μ2, b1, b2, b3, b6⟩ := m_dig (k := 2) a2 a4 (by omega) (x := u) (by omega)
  have b4 := a4.psh (x := 48 + u) (by omega)
  have l2 : (psh w1 (48 + u)).1 = w1.1 + 1 := rfl
  generalize psh w1 (48 + u) = w2 at *
  obtain ⟨μ3, c1, c2, c3, c6⟩ := m_say b2 b4 (by omega) (x := 45) (by omega)
  have c4 := b4.psh (x := 45) (by omega)
  have l3 : (psh w2 45).1 = w2.1 + 1 := rfl
  generalize psh w2 45 = w3 at *
  obtain ⟨μ4, d1, d2, d3, d6⟩ := m_dig (k := 2) c2 c4 (by omega) (x := v) (by omega)
  have d4 := c4.psh (x := 48 + v) (by omega)
  have l4 : (psh w3 (48 + v)).1 = w3.1 + 1 := rfl
  generalize psh w3 (48 + v) = w4 at *
  have f4 : Fr [78, 91] μ μ4 := ((a3.tr b3).tr c3).tr d3
  have g4 : ∀ i, i ≠ 26 → rd μ4 78 i = rd μ 78 i := fun i hi => ((d6 i hi).trans (c6 i hi)).trans ((b6 i hi).trans (a6 i hi))
  by_cases q : 1 < k
  · rw [if_pos q]
    obtain ⟨μ5, e1, e2, e3, e6⟩ := m_say d2 d4 (by omega) (x := 120) (by omega)
    have e4 := d4.psh (x := 120) (by omega)
    have l5 : (psh w4 120).1 = w4.1 + 1 := rfl
    generalize psh w4 120 = w5 at *
    obtain ⟨i1, i2⟩ := dv10 (k := k) (by omega)
    by_cases q2 : 9 < k
    · rw [if_pos q2]
      obtain ⟨μ6, j1, j2, j3, j6⟩ := m_dig (k := 1) e2 e4 (by omega) (x := k / 10) (by omega)
      have j4 := e4.psh (x := 48 + k / 10) (by omega)
      have l6 : (psh w5 (48 + k / 10)).1 = w5.1 + 1 := rfl
      generalize psh w5 (48 + k / 10) = w6 at *
      obtain ⟨μ7, m1, m2, m3, m6⟩ := m_say j2 j4 (by omega) (x := 48 + k % 10) (by omega)
      have es : fX10_saysNumber 3 k μ5 = some μ7 := by
        have e0 : fX10_saysNumber 3 k μ5 = (if 9 < wr k then (fX10_saysNumber 2 (idv k 10) μ5).bind fun y3 => some y3 else some μ5 : Option qMu).bind fun y2 => (fX10_says (48 + (irm k 10)) y2).bind fun y4 => some y4 := rfl
        rw [e0, wr_id (by omega) (by omega), if_pos q2, i1, i2, j1, obs, obs, m1]
        rfl
      refine ⟨μ7, ?_, m2, ((f4.tr e3).tr j3).tr m3, fun i hi => ((m6 i hi).trans (j6 i hi)).trans ((e6 i hi).trans (g4 i hi))⟩
      unfold fX10_saysEdges
      rw [a1, obs, b1, obs, c1, obs, d1, obs, if_pos (by rw [wr_id (by omega) (by omega)]; exact q), e1, obs, es]
      rfl
    · rw [if_neg q2]
      obtain ⟨μ7, m1, m2, m3, m6⟩ := m_say e2 e4 (by omega) (x := 48 + k % 10) (by omega)
      have es : fX10_saysNumber 3 k μ5 = some μ7 := by
        have e0 : fX10_saysNumber 3 k μ5 = (if 9 < wr k then (fX10_saysNumber 2 (idv k 10) μ5).bind fun y3 => some y3 else some μ5 : Option qMu).bind fun y2 => (fX10_says (48 + (irm k 10)) y2).bind fun y4 => some y4 := rfl
        rw [e0, wr_id (by omega) (by omega), if_neg q2, i2, obs, m1]
        rfl
      refine ⟨μ7, ?_, m2, (f4.tr e3).tr m3, fun i hi => (m6 i hi).trans ((e6 i hi).trans (g4 i hi))⟩
      unfold fX10_saysEdges
      rw [a1, obs, b1, obs, c1, obs, d1, obs, if_pos (by rw [wr_id (by omega) (by omega)]; exact q), e1, obs, es]
      rfl
  · rw [if_neg q]
    refine ⟨μ4, ?_, d2, f4, g4⟩
    unfold fX10_saysEdges
    rw [a1, obs, b1, obs, c1, obs, d1, obs, if_neg (by rw [wr_id (by omega) (by omega)]; exact q)]
end WRT
