/-! THE LAW'S REASONS, its ends, the whole law -/
theorem bnd {α β : Type} {x : Option α} {v : α} {f : α → Option β} {r : Option β} (h : x = some v) (h2 : f v = r) : x.bind f = r := by
  subst h
  exact h2
def smi (a b c d : Int) : Int := if (a = c ∧ b = d) ∨ (a = d ∧ b = c) then 1 else 0
section REL
variable {μ μ0 : qMu} {n Ls : Nat} {e : qEn} {a b c d k : Int}
theorem x_same (ha : 0 ≤ a ∧ a < 8) (hb : 0 ≤ b ∧ b < 8) (hc : 0 ≤ c ∧ c < 8) (hd : 0 ≤ d ∧ d < 8) : fL_isSame a b c d μ = some (smi a b c d) := by
  have e1 : mn a b = if b < a then b else a := mn_id (by omega) (by omega)
  have e2 : mn c d = if d < c then d else c := mn_id (by omega) (by omega)
  have e3 : mx a b = if a < b then b else a := mx_id (by omega) (by omega)
  have e4 : mx c d = if c < d then d else c := mx_id (by omega) (by omega)
  obtain ⟨p, hp⟩ : ∃ p, p = if b < a then b else a := ⟨_, rfl⟩
  obtain ⟨q, hq⟩ : ∃ q, q = if d < c then d else c := ⟨_, rfl⟩
  obtain ⟨r, hr⟩ : ∃ r, r = if a < b then b else a := ⟨_, rfl⟩
  obtain ⟨s, hs⟩ : ∃ s, s = if c < d then d else c := ⟨_, rfl⟩
  have f : (((a = c ∧ b = d) ∨ (a = d ∧ b = c)) ↔ p = q ∧ r = s) ∧ (0 ≤ p ∧ p < 8) ∧ (0 ≤ q ∧ q < 8) ∧ (0 ≤ r ∧ r < 8) ∧ (0 ≤ s ∧ s < 8) := by
    rw [hp, hq, hr, hs]
    split <;> split <;> split <;> split <;> omega
  unfold fL_isSame smi
  rw [e1, e2, e3, e4, ← hp, ← hq, ← hr, ← hs, wr_id (x := p) (by omega) (by omega), wr_id (x := q) (by omega) (by omega), wr_id (x := r) (by omega) (by omega), wr_id (x := s) (by omega) (by omega)]
  by_cases q1 : p = q
  · by_cases q2 : r = s
    · rw [if_pos q1, if_pos q2, if_pos (f.1.mpr ⟨q1, q2⟩)]
    · rw [if_pos q1, if_neg q2, if_neg (fun z => q2 (f.1.mp z).2)]
  · rw [if_neg q1, if_neg (fun z => q1 (f.1.mp z).1)]
theorem smi_01 : smi a b c d = 0 ∨ smi a b c d = 1 := by
  unfold smi
  split
  · exact Or.inr rfl
  · exact Or.inl rfl
theorem sm_01 : (if wr (smi a b c d) = 0 then (0 : Int) else 1) = smi a b c d := by
  rcases smi_01 (a := a) (b := b) (c := c) (d := d) with h | h
  · rw [h, if_pos c0w]
  · rw [h, if_neg c1w]
theorem sm_no (h : ¬ ((a = c ∧ b = d) ∨ (a = d ∧ b = c))) : smi a b c d = 0 := if_neg h
theorem sm_yes (h : (a = c ∧ b = d) ∨ (a = d ∧ b = c)) : smi a b c d = 1 := if_pos h
theorem x_isReason (hL : Ls ≤ 5000) (h : QS μ e) (hk : rd μ 78 1 = k) (hk0 : 0 ≤ k ∧ k ≤ 4900) : ∃ μ', fL_isReason Ls μ = some (.inl 1, μ') ∧ QS μ' e ∧ rd μ' 78 1 = k + 4 ∧ ∀ a, a ≠ 78 → μ' a = μ a := by
  have hN := h.2.2.1
  have hV := h.2.1.1
  have hm := h.2.1.2.2
  have stp : ∀ (ν : qMu) (k : Int), QS ν e → rd ν 78 1 = k → (0 ≤ k ∧ k ≤ 5000) → ∃ v, fL_chosen Ls (rd ν 78 2) ν = some (v, up ν 78 1 (k + 1)) ∧ (0 ≤ v ∧ v < e.1) ∧ QS (up ν 78 1 (k + 1)) e ∧ rd (up ν 78 1 (k + 1)) 78 1 = k + 1 := by
    intro ν k hQ h1 h2
    obtain ⟨v, q1, q2, q3⟩ := x_chosen (m := e.1) hL (by omega) h1 h2
    obtain ⟨g1, g2, g3, g4, g5, g6, g7⟩ := hQ
    refine ⟨v, by rw [g4]; exact q1, ⟨q2, q3⟩, ⟨g1.kp (rd_na (by decide)) (up_ne (by decide)) (up_ne (by decide)) (up_ne (by decide)) (up_ne (by decide)), g2, g3, (rd_ni (by decide)).trans g4, (rd_ni (by decide)).trans g5, g6.kp (fun a a1 a2 => up_ne (by omega)), g7⟩, ?_⟩
    rw [rd_at]
    exact wr_id (by omega) (by omega)
  obtain ⟨a, a1, a2, Q1, k1⟩ := stp μ k h hk (by omega)
  obtain ⟨b, b1, b2, Q2, k2⟩ := stp _ _ Q1 k1 (by omega)
  obtain ⟨x, x1, x2, Q3, k3⟩ := stp _ _ Q2 k2 (by omega)
  obtain ⟨y, y1, y2, Q4, k4⟩ := stp _ _ Q3 k3 (by omega)
  generalize hμ4 : up (up (up (up μ 78 1 (k + 1)) 78 1 (k + 1 + 1)) 78 1 (k + 1 + 1 + 1)) 78 1 (k + 1 + 1 + 1 + 1) = μ4 at *
  have o4 : ∀ z, z ≠ 78 → μ4 z = μ z := fun z hz => by
    rw [← hμ4]
    exact (((up_ne hz).trans (up_ne hz)).trans (up_ne hz)).trans (up_ne hz)
  have hr := y_reason Q4.1 Q4.2.1 a2 b2 x2 y2
  refine ⟨μ4, ?_, Q4, by rw [k4]; omega, o4⟩
  unfold fL_isReason
  rw [a1, obs]
  dsimp only
  rw [b1, obs]
  dsimp only
  rw [x1, obs]
  dsimp only
  rw [y1, obs]
  dsimp only
  rw [x_many Q4 (p := x) (q := y) (by omega) (by omega), obs, x_same (a := a) (b := b) (c := x) (d := y) (by omega) (by omega) (by omega) (by omega), obs, x_many Q4 (p := a) (q := x) (by omega) (by omega), obs, x_same (a := a) (b := x) (c := a) (d := b) (by omega) (by omega) (by omega) (by omega), obs, x_same (a := a) (b := x) (c := x) (d := y) (by omega) (by omega) (by omega) (by omega), obs, x_many Q4 (p := b) (q := y) (by omega) (by omega), obs, x_same (a := b) (b := y) (c := a) (d := b) (by omega) (by omega) (by omega) (by omega), obs, x_same (a := b) (b := y) (c := x) (d := y) (by omega) (by omega) (by omega) (by omega), obs, x_many Q4 (p := a) (q := b) (by omega) (by omega), obs, Q4.2.2.2.2.1, x_same (a := a) (b := x) (c := b) (d := y) (by omega) (by omega) (by omega) (by omega)]
  have r1 := hV.r a b
  have r2 := hV.r x y
  have r3 := hV.r a x
  have r4 := hV.r b y
  have wa : wr a = a := wr_id (by omega) (by omega)
  have wb : wr b = b := wr_id (by omega) (by omega)
  have wx : wr x = x := wr_id (by omega) (by omega)
  have wy : wr y = y := wr_id (by omega) (by omega)
  have wm : wr e.2.1 = e.2.1 := wr_id (by omega) (by omega)
  have ws : ∀ (t : Int) (p q r s : Int), 0 ≤ t ∧ t ≤ 16 → wr (t - smi p q r s) = t - smi p q r s := fun t p q r s ht => by
    have := smi_01 (a := p) (b := q) (c := r) (d := s)
    exact wr_id (by omega) (by omega)
  refine bnd (v := rsn e.2.1 e.2.2.1 a b x y) ?_ ?_
  · simp only [sm_01, wa, wb, wx, wy, wm, hV.w, ws _ _ _ _ _ r2]
    have es : (if (a = x ∧ b = y) ∨ (a = y ∧ b = x) then (1 : Int) else 0) = smi a b x y := rfl
    unfold rsn
    rw [es]
    by_cases c1 : e.2.2.1 a b = 0
    · rw [if_pos c1, if_pos c1]
    · rw [if_neg c1, if_neg c1]
      by_cases c2 : e.2.2.1 x y - smi a b x y < 1
      · rw [if_pos c2, if_pos c2]
      · rw [if_neg c2, if_neg c2]
        by_cases c3 : a = y
        · rw [if_pos c3, if_pos (Or.inl c3)]
        · by_cases c4 : b = x
          · rw [if_neg c3, if_pos c4, if_pos (show a = y ∨ b = x from Or.inr c4)]
          · rw [if_neg c3, if_neg c4, if_neg (show ¬ (a = y ∨ b = x) from fun q => q.elim c3 c4)]
            by_cases c5 : 0 < e.2.1
            · rw [if_pos c5]
              by_cases c6 : a = x
              · rw [if_pos c6, if_pos (show e.2.1 ≠ 0 ∧ (a = x ∨ b = y) from ⟨by omega, Or.inl c6⟩)]
              · by_cases c7 : b = y
                · rw [if_neg c6, if_pos c7, if_pos (show e.2.1 ≠ 0 ∧ (a = x ∨ b = y) from ⟨by omega, Or.inr c7⟩)]
                · rw [if_neg c6, if_neg c7, if_neg (show ¬ (e.2.1 ≠ 0 ∧ (a = x ∨ b = y)) from fun q => q.2.elim c6 c7)]
                  have n1 : ¬ ((a = a ∧ x = b) ∨ (a = b ∧ x = a)) := by omega
                  have n2 : ¬ ((a = x ∧ x = y) ∨ (a = y ∧ x = x)) := by omega
                  have n3 : ¬ ((b = a ∧ y = b) ∨ (b = b ∧ y = a)) := by omega
                  have n4 : ¬ ((b = x ∧ y = y) ∨ (b = y ∧ y = x)) := by omega
                  have n5 : ((a = b ∧ x = y) ∨ (a = y ∧ x = b)) ↔ a = b ∧ x = y := by omega
                  by_cases c8 : e.2.1 = 2
                  · rw [if_pos c8, sm_no n1, sm_no n2, sm_no n3, sm_no n4, Int.sub_zero, Int.sub_zero, Int.sub_zero, Int.sub_zero, hV.w, hV.w]
                    by_cases d1 : 0 < e.2.2.1 a x
                    · rw [if_pos d1, if_pos (show e.2.1 = 2 ∧ (0 < e.2.2.1 a x ∨ 0 < e.2.2.1 b y ∨ (a = b ∧ x = y)) from ⟨c8, Or.inl d1⟩)]
                    · rw [if_neg d1]
                      by_cases d2 : 0 < e.2.2.1 b y
                      · rw [if_pos d2, if_pos (show e.2.1 = 2 ∧ (0 < e.2.2.1 a x ∨ 0 < e.2.2.1 b y ∨ (a = b ∧ x = y)) from ⟨c8, Or.inr (Or.inl d2)⟩)]
                      · rw [if_neg d2, obs]
                        by_cases d3 : a = b ∧ x = y
                        · rw [sm_yes (n5.mpr d3), if_neg c1w, if_pos (show e.2.1 = 2 ∧ (0 < e.2.2.1 a x ∨ 0 < e.2.2.1 b y ∨ (a = b ∧ x = y)) from ⟨c8, Or.inr (Or.inr d3)⟩)]
                        · rw [sm_no (fun q => d3 (n5.mp q)), if_pos c0w, if_neg (show ¬ (e.2.1 = 2 ∧ (0 < e.2.2.1 a x ∨ 0 < e.2.2.1 b y ∨ (a = b ∧ x = y))) from fun q => q.2.elim d1 (fun q => q.elim d2 d3))]
                  · rw [if_neg c8, if_neg (show ¬ (e.2.1 = 2 ∧ (0 < e.2.2.1 a x ∨ 0 < e.2.2.1 b y ∨ (a = b ∧ x = y))) from fun q => c8 q.1)]
            · rw [if_neg c5, if_neg (show ¬ e.2.1 = 2 by omega), if_neg (show ¬ (e.2.1 ≠ 0 ∧ (a = x ∨ b = y)) from fun q => by omega), if_neg (show ¬ (e.2.1 = 2 ∧ (0 < e.2.2.1 a x ∨ 0 < e.2.2.1 b y ∨ (a = b ∧ x = y))) from fun q => by omega)]
  · rw [hr, obs, Sum.elim_inl, if_pos rfl]
theorem x_reasons (hL : Ls ≤ 5000) {t : Nat} : ∀ (d j f : Nat) (μ : qMu) (k : Int), j + d = 12 → d < f → QS μ e → rd μ 78 1 = k → (0 ≤ k ∧ k + 4 * (d : Int) ≤ 4900) → ∃ μ', lp (fun x : Int × qMu => bL_law_79 n Ls t x.1 x.2) f ((j : Int), μ) = some (.inl μ') ∧ QS μ' e ∧ ∀ a, a ≠ 78 → μ' a = μ a
  | 0, j, f, μ, k, hj, hf, h, hk, hk0 => by
    obtain ⟨f, rfl⟩ : ∃ f', f = f' + 1 := ⟨f - 1, by omega⟩
    refine ⟨μ, ?_, h, fun _ _ => rfl⟩
    rw [lp_s]
    dsimp only
    unfold bL_law_79
    rw [if_neg (show ¬ wr (j : Int) < 12 by rw [wr_id (by omega) (by omega)]; omega)]
    rfl
  | d + 1, j, f, μ, k, hj, hf, h, hk, hk0 => by
    obtain ⟨f, rfl⟩ : ∃ f', f = f' + 1 := ⟨f - 1, by omega⟩
    obtain ⟨μ1, a1, a2, a3, a4⟩ := x_isReason hL h hk (by omega)
    obtain ⟨μ2, b1, b2, b3⟩ := x_reasons hL (t := t) d (j + 1) f μ1 (k + 4) (by omega) (by omega) a2 a3 (by omega)
    refine ⟨μ2, ?_, b2, fun x hx => (b3 x hx).trans (a4 x hx)⟩
    rw [lp_s]
    dsimp only
    have e1 : bL_law_79 n Ls t (j : Int) μ = some (.inl ((j : Int) + 1, μ1)) := by
      unfold bL_law_79
      rw [if_pos (show wr (j : Int) < 12 by rw [wr_id (by omega) (by omega)]; omega), a1, obs, Sum.elim_inl, if_neg c1w]
    rw [e1]
    exact b1
theorem x_isNoEdge (hn : 5000 ≤ n) {t : Nat} {E : Nat → qEn} {pp hh : Nat} (h : QS μ e) (hH : HX μ pp hh E) : ∃ t' μ', fL_isNoEdge n t μ = some (1, t', μ') ∧ (t' = t ∨ t' = t + 1) ∧ ∀ a, 76 ≤ a → μ' a = μ a := by
  have hN := h.2.2.1
  have hV := h.2.1.1
  have hr := hV.r (e.1 - 1) (e.1 - 1)
  obtain ⟨a1, a2⟩ := h.2.2.2.2.2.1.at (i := e.1 - 1) (j := e.1 - 1) (by omega)
  by_cases c : e.2.2.1 (e.1 - 1) (e.1 - 1) = 0
  · refine ⟨t + 1, μ, ?_, Or.inr rfl, fun _ _ => rfl⟩
    unfold fL_isNoEdge
    rw [h.2.2.2.1, y_removeNo h.1 h.2.1 (by omega) c, obs, Sum.elim_inr, if_pos rfl]
    dsimp only
    rw [h.2.2.2.1, a1, obs, a2, obs, c, if_pos c0w]
  · obtain ⟨μ1, b1, b2⟩ := y_remove hn h.1 h.2.1 hH (p := e.1 - 1) (by omega) (by omega)
    refine ⟨t, μ1, ?_, Or.inl rfl, b2⟩
    have l1 : qLd μ1 (81 + (e.1 - 1).toNat) 6 (e.1 - 1) = some (e.2.2.1 (e.1 - 1) (e.1 - 1)) := by
      rw [qLd_in (by omega), rd_cg (b2 _ (by omega))]
      rw [qLd_in (by omega)] at a2
      exact a2
    have r1 : rd μ1 78 2 = e.1 := (rd_cg (b2 78 (by omega)) 2).trans h.2.2.2.1
    unfold fL_isNoEdge
    rw [h.2.2.2.1, b1, obs, Sum.elim_inl]
    dsimp only
    rw [r1, a1, obs, l1, obs, if_pos rfl]
/-- THE LAW SAYS YES -/
theorem x_law (hn : 5000 ≤ n) (hL : Ls ≤ 5000) (h1 : rd μ 78 1 = 0) (h2 : qJn μ = 0 ∧ qJs μ = 0) (h3 : ∀ a, 81 ≤ a → a ≤ 86 → ∀ i : Int, 0 ≤ i → i < 6 → rd μ a i = 0) (h5 : rd μ 1 5 = 0) : ∃ t' μ', fL_law n Ls 0 μ = some (.inl 1, t', μ') ∧ t' ≤ 3 ∧ qJn μ' ≤ 300 ∧ qJs μ' ≤ 40000 := by
  obtain ⟨N, m, D, K, U, V, s, μ1, a1, T⟩ := x_told (n := n) hn hL h1 h2 h3
  obtain ⟨μ2, b1, b2, b3, b4, b5, b6⟩ := x_loaded hn T h5
  obtain ⟨t1, t2, t3, t4, t5, t6, t7, t8, t9, t10, t11⟩ := T
  have Q2 : QS μ2 (Lst N m D K U V) := ⟨b3, b2, t1, (rd_cg (b6 78 (by omega)) 2).trans t7.2.1, (rd_cg (b6 78 (by omega)) 3).trans t7.2.2.1, t8.kp (fun a a1 a2 => b6 a (by omega)), rfl⟩
  have n2 : qJn μ2 = qJn μ1 := qJn_cg (b6 _ (by omega))
  have n2s : qJs μ2 = qJs μ1 := qJs_cg (b6 _ (by omega))
  obtain ⟨μ3, c1, c2, c3, c4, c5⟩ := x_isGraph hn Q2 (by omega) (by omega)
  obtain ⟨μ4, d1, d2, d3, d4, d5⟩ := x_isSeq hn c2 (by omega) (by omega)
  have k4 : rd μ4 78 1 = 3 + N + 2 * (K : Int) := by
    rw [rd_cg (d3 78 (by omega) (by decide)), rd_cg (c3 78 (by omega) (by decide)), rd_cg (b6 78 (by omega))]
    exact t7.1
  obtain ⟨μ5, e1, e2, e3⟩ := x_reasons (n := n) hL (t := 0) 12 0 n μ4 _ (by omega) (by omega) d2 k4 (by omega)
  have hH : HX μ5 0 0 (fun _ => Lst N m D K U V) := b4.kp (by rw [e3 32 (by decide), d3 32 (by omega) (by decide), c3 32 (by omega) (by decide)]) (fun a q1 q2 => by rw [e3 a (by omega), d3 a (by omega) (by simp; omega), c3 a (by omega) (by simp; omega)])
  obtain ⟨t', μ6, f1, f2, f3⟩ := x_isNoEdge hn (t := 0 + 1 + 1) e2 hH
  have g1 : fL_isNoVertex n 0 μ5 = some (1, 0 + 1) := by
    unfold fL_isNoVertex
    rw [y_degree8 e2.1 e2.2.1, obs, Sum.elim_inr, if_pos rfl]
  have g2 : fL_isBad n (0 + 1) μ5 = some (1, 0 + 1 + 1, μ5) := by
    unfold fL_isBad
    rw [y_setMode3, obs, Sum.elim_inr, if_pos rfl]
  have e1' : lp (fun x : Int × qMu => bL_law_79 n Ls 0 x.1 x.2) n (0, μ4) = some (.inl μ5) := e1
  have hed : fL_edges n μ2 = some (Ed (eds U V (b0 D N.toNat).2 K)) := x_edgL hn Q2
  have n6 : qJn μ6 = qJn μ4 := (qJn_cg (f3 _ (by omega))).trans (qJn_cg (e3 _ (by decide)))
  have n6s : qJs μ6 = qJs μ4 := (qJs_cg (f3 _ (by omega))).trans (qJs_cg (e3 _ (by decide)))
  refine ⟨t', μ6, ?_, by omega, by omega, by omega⟩
  unfold fL_law
  rw [a1, obs]
  dsimp only
  rw [b1, obs, Sum.elim_inl]
  dsimp only
  rw [hed, obs, if_pos rfl, y_errorKind b5, obs, if_pos c0w, y_vertices b3, obs]
  show (if wr N = wr (rd μ2 78 2) then _ else _) = _
  rw [if_pos (by rw [rd_cg (b6 78 (by omega)), t7.2.1]), c1, obs, Sum.elim_inl, if_neg c1w]
  dsimp only
  rw [d1, obs, Sum.elim_inl, if_neg c1w]
  dsimp only
  rw [e1', obs, Sum.elim_inl, g1, obs]
  dsimp only
  rw [if_neg c1w, g2, obs]
  dsimp only
  rw [if_neg c1w, f1, obs]
  dsimp only
  rw [if_neg c1w]
end REL
