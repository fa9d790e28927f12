/-! THE LAW'S LOOP, as a run of the small machine -/
def lwL (i : Int) : qLo := [some (.ref 1001000), some (.ref 0), some (.ref 78), some (.ref 92), some (iv i), none, none, none, none]
section LLP
variable {d n Ls t : Nat} {i : Int} {μ : qMu}
theorem qTw_le (t : Nat) (k : Int) : qTw t k ≤ t + 1 := by
  unfold qTw
  split <;> omega
/-- behind a case: the next round -/
theorem ev_latch {o : qO} {s' : qSt} (k : Ev (d + 9) mL_law 23 (lwL (i + 6)) [] (cS Ls t μ) o s') : Ev (d + 9) mL_law 2257 (lwL i) [] (cS Ls t μ) o s' := by
  refine ev_iinc (pc' := 2260) (L1 := lwL (i + 6)) dL_law_2257 rfl rfl rfl ?_
  exact ev_goto (pc' := 23) dL_law_2260 (by decide) k
/-- one of the cases -/
theorem ev_cases (hn : 5000 ≤ n) (hLs : Ls ≤ 5000) (hi : 0 ≤ i ∧ i + 6 ≤ (Ls : Int)) (H : RQ μ) {x : Int} (hx : 0 ≤ x ∧ x < 64) (o : qO) (P : Nat → qMu → qSt → Prop) (k : ∀ (t' : Nat) (μ' : qMu), t' ≤ t + 1 → RQ μ' → ∃ s', P t' μ' s' ∧ Ev (d + 9) mL_law 2257 (lwL i) [] (cS Ls t' μ') o s') : ∃ t' μ' s', P t' μ' s' ∧ Ev (d + 9) mL_law 40 (lwL i) [iv x] (cS Ls t μ) o s' := by
  have hw : wr x = x := wr_id (by omega) (by omega)
  have dflt : 46 < x → ∃ t' μ' s', P t' μ' s' ∧ Ev (d + 9) mL_law 40 (lwL i) [iv x] (cS Ls t μ) o s' := fun hd => by
    obtain ⟨s', h1, h2⟩ := k t μ (by omega) H
    exact ⟨t, μ, s', h1, ev_switchd (tgt := 2257) dL_law_40 (Or.inr (by rw [hw]; exact hd)) (by decide) h2⟩
  by_cases q0 : x = 0
  · subst q0
    obtain ⟨z, μ', h1, h2, -⟩ := c_244 (n := n) (Ls := Ls) hn hi H
    obtain ⟨s', h3, h4⟩ := k (qTw t z) μ' (qTw_le t z) h2
    exact ⟨_, μ', s', h3, ev_switch (tgt := 244) dL_law_40 (by rw [hw]; decide) (by rw [hw]; decide) (off := 204) (by rw [hw]; rfl) (by decide) (esL_244 hLs h1 o s' h4)⟩
  by_cases q1 : x = 1
  · subst q1
    obtain ⟨z, μ', h1, h2, -⟩ := c_317 (n := n) (Ls := Ls) hn hi H
    obtain ⟨s', h3, h4⟩ := k (qTw t z) μ' (qTw_le t z) h2
    exact ⟨_, μ', s', h3, ev_switch (tgt := 317) dL_law_40 (by rw [hw]; decide) (by rw [hw]; decide) (off := 277) (by rw [hw]; rfl) (by decide) (esL_317 hLs h1 o s' h4)⟩
  by_cases q2 : x = 2
  · subst q2
    obtain ⟨z, μ', h1, h2, -⟩ := c_373 (n := n) (Ls := Ls) hn hi H
    obtain ⟨s', h3, h4⟩ := k (qTw t z) μ' (qTw_le t z) h2
    exact ⟨_, μ', s', h3, ev_switch (tgt := 373) dL_law_40 (by rw [hw]; decide) (by rw [hw]; decide) (off := 333) (by rw [hw]; rfl) (by decide) (esL_373 hLs h1 o s' h4)⟩
  by_cases q3 : x = 3
  · subst q3
    obtain ⟨z, μ', h1, h2, -⟩ := c_386 (n := n) (Ls := Ls) hn hi H
    obtain ⟨s', h3, h4⟩ := k (qTw t z) μ' (qTw_le t z) h2
    exact ⟨_, μ', s', h3, ev_switch (tgt := 386) dL_law_40 (by rw [hw]; decide) (by rw [hw]; decide) (off := 346) (by rw [hw]; rfl) (by decide) (esL_386 hLs h1 o s' h4)⟩
  by_cases q4 : x = 4
  · subst q4
    obtain ⟨z, μ', h1, h2, -⟩ := c_399 (n := n) (Ls := Ls) hn hi H
    obtain ⟨s', h3, h4⟩ := k (qTw t z) μ' (qTw_le t z) h2
    exact ⟨_, μ', s', h3, ev_switch (tgt := 399) dL_law_40 (by rw [hw]; decide) (by rw [hw]; decide) (off := 359) (by rw [hw]; rfl) (by decide) (esL_399 hLs h1 o s' h4)⟩
  by_cases q5 : x = 5
  · subst q5
    obtain ⟨z, μ', h1, h2, -⟩ := c_412 (n := n) (Ls := Ls) hn hi H
    obtain ⟨s', h3, h4⟩ := k (qTw t z) μ' (qTw_le t z) h2
    exact ⟨_, μ', s', h3, ev_switch (tgt := 412) dL_law_40 (by rw [hw]; decide) (by rw [hw]; decide) (off := 372) (by rw [hw]; rfl) (by decide) (esL_412 hLs h1 o s' h4)⟩
  by_cases q6 : x = 6
  · subst q6
    obtain ⟨z, μ', h1, h2, -⟩ := c_425 (n := n) (Ls := Ls) hn hi H
    obtain ⟨s', h3, h4⟩ := k (qTw t z) μ' (qTw_le t z) h2
    exact ⟨_, μ', s', h3, ev_switch (tgt := 425) dL_law_40 (by rw [hw]; decide) (by rw [hw]; decide) (off := 385) (by rw [hw]; rfl) (by decide) (esL_425 hLs h1 o s' h4)⟩
  by_cases q7 : x = 7
  · subst q7
    obtain ⟨z, μ', h1, h2, -⟩ := c_466 (n := n) (Ls := Ls) hn hi H
    obtain ⟨s', h3, h4⟩ := k (qTw t z) μ' (qTw_le t z) h2
    exact ⟨_, μ', s', h3, ev_switch (tgt := 466) dL_law_40 (by rw [hw]; decide) (by rw [hw]; decide) (off := 426) (by rw [hw]; rfl) (by decide) (esL_466 hLs h1 o s' h4)⟩
  by_cases q8 : x = 8
  · subst q8
    obtain ⟨z, μ', h1, h2, -⟩ := c_562 (n := n) (Ls := Ls) hn hi H
    obtain ⟨s', h3, h4⟩ := k (qTw t z) μ' (qTw_le t z) h2
    exact ⟨_, μ', s', h3, ev_switch (tgt := 562) dL_law_40 (by rw [hw]; decide) (by rw [hw]; decide) (off := 522) (by rw [hw]; rfl) (by decide) (esL_562 hLs h1 o s' h4)⟩
  by_cases q9 : x = 9
  · subst q9
    obtain ⟨z, μ', h1, h2, -⟩ := c_646 (n := n) (Ls := Ls) hn hi H
    obtain ⟨s', h3, h4⟩ := k (qTw t z) μ' (qTw_le t z) h2
    exact ⟨_, μ', s', h3, ev_switch (tgt := 646) dL_law_40 (by rw [hw]; decide) (by rw [hw]; decide) (off := 606) (by rw [hw]; rfl) (by decide) (esL_646 hLs h1 o s' h4)⟩
  by_cases q10 : x = 10
  · subst q10
    obtain ⟨z, μ', h1, h2, -⟩ := c_659 (n := n) (Ls := Ls) hn hi H
    obtain ⟨s', h3, h4⟩ := k (qTw t z) μ' (qTw_le t z) h2
    exact ⟨_, μ', s', h3, ev_switch (tgt := 659) dL_law_40 (by rw [hw]; decide) (by rw [hw]; decide) (off := 619) (by rw [hw]; rfl) (by decide) (esL_659 hLs h1 o s' h4)⟩
  by_cases q11 : x = 11
  · subst q11
    obtain ⟨z, μ', h1, h2, -⟩ := c_672 (n := n) (Ls := Ls) hn hi H
    obtain ⟨s', h3, h4⟩ := k (qTw t z) μ' (qTw_le t z) h2
    exact ⟨_, μ', s', h3, ev_switch (tgt := 672) dL_law_40 (by rw [hw]; decide) (by rw [hw]; decide) (off := 632) (by rw [hw]; rfl) (by decide) (esL_672 hLs h1 o s' h4)⟩
  by_cases q12 : x = 12
  · subst q12
    obtain ⟨z, μ', h1, h2, -⟩ := c_685 (n := n) (Ls := Ls) hn hi H
    obtain ⟨s', h3, h4⟩ := k (qTw t z) μ' (qTw_le t z) h2
    exact ⟨_, μ', s', h3, ev_switch (tgt := 685) dL_law_40 (by rw [hw]; decide) (by rw [hw]; decide) (off := 645) (by rw [hw]; rfl) (by decide) (esL_685 hLs h1 o s' h4)⟩
  by_cases q13 : x = 13
  · subst q13
    obtain ⟨z, μ', h1, h2, -⟩ := c_741 (n := n) (Ls := Ls) hn hi H
    obtain ⟨s', h3, h4⟩ := k (qTw t z) μ' (qTw_le t z) h2
    exact ⟨_, μ', s', h3, ev_switch (tgt := 741) dL_law_40 (by rw [hw]; decide) (by rw [hw]; decide) (off := 701) (by rw [hw]; rfl) (by decide) (esL_741 hLs h1 o s' h4)⟩
  by_cases q14 : x = 14
  · subst q14
    obtain ⟨z, μ', h1, h2, -⟩ := c_754 (n := n) (Ls := Ls) hn hi H
    obtain ⟨s', h3, h4⟩ := k (qTw t z) μ' (qTw_le t z) h2
    exact ⟨_, μ', s', h3, ev_switch (tgt := 754) dL_law_40 (by rw [hw]; decide) (by rw [hw]; decide) (off := 714) (by rw [hw]; rfl) (by decide) (esL_754 hLs h1 o s' h4)⟩
  by_cases q15 : x = 15
  · subst q15
    obtain ⟨z, μ', h1, h2, -⟩ := c_767 (n := n) (Ls := Ls) hn hi H
    obtain ⟨s', h3, h4⟩ := k (qTw t z) μ' (qTw_le t z) h2
    exact ⟨_, μ', s', h3, ev_switch (tgt := 767) dL_law_40 (by rw [hw]; decide) (by rw [hw]; decide) (off := 727) (by rw [hw]; rfl) (by decide) (esL_767 hLs h1 o s' h4)⟩
  by_cases q16 : x = 16
  · subst q16
    obtain ⟨z, μ', h1, h2, -⟩ := c_823 (n := n) (Ls := Ls) hn hi H
    obtain ⟨s', h3, h4⟩ := k (qTw t z) μ' (qTw_le t z) h2
    exact ⟨_, μ', s', h3, ev_switch (tgt := 823) dL_law_40 (by rw [hw]; decide) (by rw [hw]; decide) (off := 783) (by rw [hw]; rfl) (by decide) (esL_823 hLs h1 o s' h4)⟩
  by_cases q17 : x = 17
  · subst q17
    obtain ⟨z, μ', h1, h2, -⟩ := c_836 (n := n) (Ls := Ls) hn hi H
    obtain ⟨s', h3, h4⟩ := k (qTw t z) μ' (qTw_le t z) h2
    exact ⟨_, μ', s', h3, ev_switch (tgt := 836) dL_law_40 (by rw [hw]; decide) (by rw [hw]; decide) (off := 796) (by rw [hw]; rfl) (by decide) (esL_836 hLs h1 o s' h4)⟩
  by_cases q18 : x = 18
  · subst q18
    obtain ⟨z, μ', h1, h2, -⟩ := c_911 (n := n) (Ls := Ls) hn hi H
    obtain ⟨s', h3, h4⟩ := k (qTw t z) μ' (qTw_le t z) h2
    exact ⟨_, μ', s', h3, ev_switch (tgt := 911) dL_law_40 (by rw [hw]; decide) (by rw [hw]; decide) (off := 871) (by rw [hw]; rfl) (by decide) (esL_911 hLs h1 o s' h4)⟩
  by_cases q19 : x = 19
  · subst q19
    obtain ⟨z, μ', h1, h2, -⟩ := c_924 (n := n) (Ls := Ls) hn hi H
    obtain ⟨s', h3, h4⟩ := k (qTw t z) μ' (qTw_le t z) h2
    exact ⟨_, μ', s', h3, ev_switch (tgt := 924) dL_law_40 (by rw [hw]; decide) (by rw [hw]; decide) (off := 884) (by rw [hw]; rfl) (by decide) (esL_924 hLs h1 o s' h4)⟩
  by_cases q20 : x = 20
  · subst q20
    obtain ⟨z, μ', h1, h2, -⟩ := c_992 (n := n) (Ls := Ls) hn hi H
    obtain ⟨s', h3, h4⟩ := k (qTw t z) μ' (qTw_le t z) h2
    exact ⟨_, μ', s', h3, ev_switch (tgt := 992) dL_law_40 (by rw [hw]; decide) (by rw [hw]; decide) (off := 952) (by rw [hw]; rfl) (by decide) (esL_992 hLs h1 o s' h4)⟩
  by_cases q21 : x = 21
  · subst q21
    obtain ⟨z, μ', h1, h2, -⟩ := c_1048 (n := n) (Ls := Ls) hn hi H
    obtain ⟨s', h3, h4⟩ := k (qTw t z) μ' (qTw_le t z) h2
    exact ⟨_, μ', s', h3, ev_switch (tgt := 1048) dL_law_40 (by rw [hw]; decide) (by rw [hw]; decide) (off := 1008) (by rw [hw]; rfl) (by decide) (esL_1048 hLs h1 o s' h4)⟩
  by_cases q22 : x = 22
  · subst q22
    obtain ⟨z, μ', h1, h2, -⟩ := c_1104 (n := n) (Ls := Ls) hn hi H
    obtain ⟨s', h3, h4⟩ := k (qTw t z) μ' (qTw_le t z) h2
    exact ⟨_, μ', s', h3, ev_switch (tgt := 1104) dL_law_40 (by rw [hw]; decide) (by rw [hw]; decide) (off := 1064) (by rw [hw]; rfl) (by decide) (esL_1104 hLs h1 o s' h4)⟩
  by_cases q23 : x = 23
  · subst q23
    obtain ⟨z, μ', h1, h2, -⟩ := c_1167 (n := n) (Ls := Ls) hn hi H
    obtain ⟨s', h3, h4⟩ := k (qTw t z) μ' (qTw_le t z) h2
    exact ⟨_, μ', s', h3, ev_switch (tgt := 1167) dL_law_40 (by rw [hw]; decide) (by rw [hw]; decide) (off := 1127) (by rw [hw]; rfl) (by decide) (esL_1167 hLs h1 o s' h4)⟩
  by_cases q24 : x = 24
  · subst q24
    obtain ⟨z, μ', h1, h2, -⟩ := c_1208 (n := n) (Ls := Ls) hn hi H
    obtain ⟨s', h3, h4⟩ := k (qTw t z) μ' (qTw_le t z) h2
    exact ⟨_, μ', s', h3, ev_switch (tgt := 1208) dL_law_40 (by rw [hw]; decide) (by rw [hw]; decide) (off := 1168) (by rw [hw]; rfl) (by decide) (esL_1208 hLs h1 o s' h4)⟩
  by_cases q25 : x = 25
  · subst q25
    obtain ⟨z, μ', h1, h2, -⟩ := c_1300 (n := n) (Ls := Ls) hn hi H
    obtain ⟨s', h3, h4⟩ := k (qTw t z) μ' (qTw_le t z) h2
    exact ⟨_, μ', s', h3, ev_switch (tgt := 1300) dL_law_40 (by rw [hw]; decide) (by rw [hw]; decide) (off := 1260) (by rw [hw]; rfl) (by decide) (esL_1300 hLs h1 o s' h4)⟩
  by_cases q26 : x = 26
  · subst q26
    obtain ⟨z, μ', h1, h2, -⟩ := c_1313 (n := n) (Ls := Ls) hn hi H
    obtain ⟨s', h3, h4⟩ := k (qTw t z) μ' (qTw_le t z) h2
    exact ⟨_, μ', s', h3, ev_switch (tgt := 1313) dL_law_40 (by rw [hw]; decide) (by rw [hw]; decide) (off := 1273) (by rw [hw]; rfl) (by decide) (esL_1313 hLs h1 o s' h4)⟩
  by_cases q27 : x = 27
  · subst q27
    obtain ⟨z, μ', h1, h2, -⟩ := c_1381 (n := n) (Ls := Ls) hn hi H
    obtain ⟨s', h3, h4⟩ := k (qTw t z) μ' (qTw_le t z) h2
    exact ⟨_, μ', s', h3, ev_switch (tgt := 1381) dL_law_40 (by rw [hw]; decide) (by rw [hw]; decide) (off := 1341) (by rw [hw]; rfl) (by decide) (esL_1381 hLs h1 o s' h4)⟩
  by_cases q28 : x = 28
  · subst q28
    obtain ⟨z, μ', h1, h2, -⟩ := c_1473 (n := n) (Ls := Ls) hn hi H
    obtain ⟨s', h3, h4⟩ := k (qTw t z) μ' (qTw_le t z) h2
    exact ⟨_, μ', s', h3, ev_switch (tgt := 1473) dL_law_40 (by rw [hw]; decide) (by rw [hw]; decide) (off := 1433) (by rw [hw]; rfl) (by decide) (esL_1473 hLs h1 o s' h4)⟩
  by_cases q29 : x = 29
  · subst q29
    obtain ⟨z, μ', h1, h2, -⟩ := c_1517 (n := n) (Ls := Ls) hn hi H
    obtain ⟨s', h3, h4⟩ := k (qTw t z) μ' (qTw_le t z) h2
    exact ⟨_, μ', s', h3, ev_switch (tgt := 1517) dL_law_40 (by rw [hw]; decide) (by rw [hw]; decide) (off := 1477) (by rw [hw]; rfl) (by decide) (esL_1517 hLs h1 o s' h4)⟩
  by_cases q30 : x = 30
  · subst q30
    obtain ⟨z, μ', h1, h2, -⟩ := c_1530 (n := n) (Ls := Ls) hn hi H
    obtain ⟨s', h3, h4⟩ := k (qTw t z) μ' (qTw_le t z) h2
    exact ⟨_, μ', s', h3, ev_switch (tgt := 1530) dL_law_40 (by rw [hw]; decide) (by rw [hw]; decide) (off := 1490) (by rw [hw]; rfl) (by decide) (esL_1530 hLs h1 o s' h4)⟩
  by_cases q31 : x = 31
  · subst q31
    obtain ⟨z, μ', h1, h2, -⟩ := c_1543 (n := n) (Ls := Ls) hn hi H
    obtain ⟨s', h3, h4⟩ := k (qTw t z) μ' (qTw_le t z) h2
    exact ⟨_, μ', s', h3, ev_switch (tgt := 1543) dL_law_40 (by rw [hw]; decide) (by rw [hw]; decide) (off := 1503) (by rw [hw]; rfl) (by decide) (esL_1543 hLs h1 o s' h4)⟩
  by_cases q32 : x = 32
  · subst q32
    obtain ⟨z, μ', h1, h2, -⟩ := c_1587 (n := n) (Ls := Ls) hn hi H
    obtain ⟨s', h3, h4⟩ := k (qTw t z) μ' (qTw_le t z) h2
    exact ⟨_, μ', s', h3, ev_switch (tgt := 1587) dL_law_40 (by rw [hw]; decide) (by rw [hw]; decide) (off := 1547) (by rw [hw]; rfl) (by decide) (esL_1587 hLs h1 o s' h4)⟩
  by_cases q33 : x = 33
  · subst q33
    obtain ⟨z, μ', h1, h2, -⟩ := c_1655 (n := n) (Ls := Ls) hn hi H
    obtain ⟨s', h3, h4⟩ := k (qTw t z) μ' (qTw_le t z) h2
    exact ⟨_, μ', s', h3, ev_switch (tgt := 1655) dL_law_40 (by rw [hw]; decide) (by rw [hw]; decide) (off := 1615) (by rw [hw]; rfl) (by decide) (esL_1655 hLs h1 o s' h4)⟩
  by_cases q34 : x = 34
  · subst q34
    obtain ⟨z, μ', h1, h2, -⟩ := c_1699 (n := n) (Ls := Ls) hn hi H
    obtain ⟨s', h3, h4⟩ := k (qTw t z) μ' (qTw_le t z) h2
    exact ⟨_, μ', s', h3, ev_switch (tgt := 1699) dL_law_40 (by rw [hw]; decide) (by rw [hw]; decide) (off := 1659) (by rw [hw]; rfl) (by decide) (esL_1699 hLs h1 o s' h4)⟩
  by_cases q35 : x = 35
  · subst q35
    obtain ⟨z, μ', h1, h2, -⟩ := c_1767 (n := n) (Ls := Ls) hn hi H
    obtain ⟨s', h3, h4⟩ := k (qTw t z) μ' (qTw_le t z) h2
    exact ⟨_, μ', s', h3, ev_switch (tgt := 1767) dL_law_40 (by rw [hw]; decide) (by rw [hw]; decide) (off := 1727) (by rw [hw]; rfl) (by decide) (esL_1767 hLs h1 o s' h4)⟩
  by_cases q36 : x = 36
  · subst q36
    obtain ⟨z, μ', h1, h2, -⟩ := c_1835 (n := n) (Ls := Ls) hn hi H
    obtain ⟨s', h3, h4⟩ := k (qTw t z) μ' (qTw_le t z) h2
    exact ⟨_, μ', s', h3, ev_switch (tgt := 1835) dL_law_40 (by rw [hw]; decide) (by rw [hw]; decide) (off := 1795) (by rw [hw]; rfl) (by decide) (esL_1835 hLs h1 o s' h4)⟩
  by_cases q37 : x = 37
  · subst q37
    obtain ⟨z, μ', h1, h2, -⟩ := c_1927 (n := n) (Ls := Ls) hn hi H
    obtain ⟨s', h3, h4⟩ := k (qTw t z) μ' (qTw_le t z) h2
    exact ⟨_, μ', s', h3, ev_switch (tgt := 1927) dL_law_40 (by rw [hw]; decide) (by rw [hw]; decide) (off := 1887) (by rw [hw]; rfl) (by decide) (esL_1927 hLs h1 o s' h4)⟩
  by_cases q38 : x = 38
  · subst q38
    obtain ⟨z, μ', h1, h2, -⟩ := c_1983 (n := n) (Ls := Ls) hn hi H
    obtain ⟨s', h3, h4⟩ := k (qTw t z) μ' (qTw_le t z) h2
    exact ⟨_, μ', s', h3, ev_switch (tgt := 1983) dL_law_40 (by rw [hw]; decide) (by rw [hw]; decide) (off := 1943) (by rw [hw]; rfl) (by decide) (esL_1983 hLs h1 o s' h4)⟩
  by_cases q39 : x = 39
  · subst q39
    obtain ⟨z, μ', h1, h2, -⟩ := c_2039 (n := n) (Ls := Ls) hn hi H
    obtain ⟨s', h3, h4⟩ := k (qTw t z) μ' (qTw_le t z) h2
    exact ⟨_, μ', s', h3, ev_switch (tgt := 2039) dL_law_40 (by rw [hw]; decide) (by rw [hw]; decide) (off := 1999) (by rw [hw]; rfl) (by decide) (esL_2039 hLs h1 o s' h4)⟩
  by_cases q40 : x = 40
  · subst q40
    obtain ⟨z, μ', h1, h2, -⟩ := c_2052 (n := n) (Ls := Ls) hn hi H
    obtain ⟨s', h3, h4⟩ := k (qTw t z) μ' (qTw_le t z) h2
    exact ⟨_, μ', s', h3, ev_switch (tgt := 2052) dL_law_40 (by rw [hw]; decide) (by rw [hw]; decide) (off := 2012) (by rw [hw]; rfl) (by decide) (esL_2052 hLs h1 o s' h4)⟩
  by_cases q41 : x = 41
  · subst q41
    obtain ⟨z, μ', h1, h2, -⟩ := c_2065 (n := n) (Ls := Ls) hn hi H
    obtain ⟨s', h3, h4⟩ := k (qTw t z) μ' (qTw_le t z) h2
    exact ⟨_, μ', s', h3, ev_switch (tgt := 2065) dL_law_40 (by rw [hw]; decide) (by rw [hw]; decide) (off := 2025) (by rw [hw]; rfl) (by decide) (esL_2065 hLs h1 o s' h4)⟩
  by_cases q42 : x = 42
  · subst q42
    obtain ⟨z, μ', h1, h2, -⟩ := c_2078 (n := n) (Ls := Ls) hn hi H
    obtain ⟨s', h3, h4⟩ := k (qTw t z) μ' (qTw_le t z) h2
    exact ⟨_, μ', s', h3, ev_switch (tgt := 2078) dL_law_40 (by rw [hw]; decide) (by rw [hw]; decide) (off := 2038) (by rw [hw]; rfl) (by decide) (esL_2078 hLs h1 o s' h4)⟩
  by_cases q43 : x = 43
  · subst q43
    obtain ⟨z, μ', h1, h2, -⟩ := c_2091 (n := n) (Ls := Ls) hn hi H
    obtain ⟨s', h3, h4⟩ := k (qTw t z) μ' (qTw_le t z) h2
    exact ⟨_, μ', s', h3, ev_switch (tgt := 2091) dL_law_40 (by rw [hw]; decide) (by rw [hw]; decide) (off := 2051) (by rw [hw]; rfl) (by decide) (esL_2091 hLs h1 o s' h4)⟩
  by_cases q44 : x = 44
  · subst q44
    obtain ⟨z, μ', h1, h2, -⟩ := c_2147 (n := n) (Ls := Ls) hn hi H
    obtain ⟨s', h3, h4⟩ := k (qTw t z) μ' (qTw_le t z) h2
    exact ⟨_, μ', s', h3, ev_switch (tgt := 2147) dL_law_40 (by rw [hw]; decide) (by rw [hw]; decide) (off := 2107) (by rw [hw]; rfl) (by decide) (esL_2147 hLs h1 o s' h4)⟩
  by_cases q45 : x = 45
  · subst q45
    obtain ⟨z, μ', h1, h2, -⟩ := c_2160 (n := n) (Ls := Ls) hn hi H
    obtain ⟨s', h3, h4⟩ := k (qTw t z) μ' (qTw_le t z) h2
    exact ⟨_, μ', s', h3, ev_switch (tgt := 2160) dL_law_40 (by rw [hw]; decide) (by rw [hw]; decide) (off := 2120) (by rw [hw]; rfl) (by decide) (esL_2160 hLs h1 o s' h4)⟩
  by_cases q46 : x = 46
  · subst q46
    obtain ⟨z, μ', h1, h2, -⟩ := c_2201 (n := n) (Ls := Ls) hn hi H
    obtain ⟨s', h3, h4⟩ := k (qTw t z) μ' (qTw_le t z) h2
    exact ⟨_, μ', s', h3, ev_switch (tgt := 2201) dL_law_40 (by rw [hw]; decide) (by rw [hw]; decide) (off := 2161) (by rw [hw]; rfl) (by decide) (esL_2201 hLs h1 o s' h4)⟩
  exact dflt (by omega)
theorem ian_63 (v : Int) : 0 ≤ ian v 63 ∧ ian v 63 < 64 := by
  obtain ⟨j, hj, h⟩ := pk_andE (Int32.ofInt v) (m := 63) 6 (by decide)
  have e1 : ian v 63 = (j : Int) := by
    unfold ian
    show (Int32.ofInt v &&& 63).toInt = _
    rw [h]
    exact Int32.toInt_ofNat_of_lt (by omega)
  omega
theorem ev_loop (hn : 5000 ≤ n) (hLs : Ls ≤ 3072) : ∀ (k : Nat) (i : Int) (t : Nat) (μ : qMu), RQ μ → 0 ≤ i → (Ls : Int) - i < 6 * (k : Int) + 6 → i ≤ 4000 → ∃ t' μ', t' ≤ t + k ∧ Ev (d + 9) mL_law 23 (lwL i) [] (cS Ls t μ) (.inl (some (iv 1))) (cS Ls t' μ') := by
  intro k
  induction k with
  | zero =>
    intro i t μ H h0 hk h4
    refine ⟨t, μ, by omega, ?_⟩
    refine ev_iload (pc' := 25) dL_law_23 rfl rfl ?_
    refine ev_aload_n (pc' := 26) dL_law_25 rfl rfl ?_
    refine ev_slen0 (pc' := 27) dL_law_26 rfl ?_
    refine ev_bipush (pc' := 29) dL_law_27 rfl (by decide) ?_
    refine ev_isub (pc' := 30) dL_law_29 rfl ?_
    refine ev_icmpgt (pc' := 33) (tgt := 2263) dL_law_30 (by decide) rfl (x1 := i) (y1 := (Ls : Int) - 6) (wr_id (by omega) (by omega)) (wr_id (by omega) (by omega)) (fun _ => ?_) (fun q => ?_)
    · refine ev_iconst (pc' := 2264) dL_law_2263 rfl ?_
      exact ev_ireturn dL_law_2264 rfl rfl
    · exact absurd (by omega) q
  | succ k ih =>
    intro i t μ H h0 hk h4
    by_cases q : (Ls : Int) - 6 < i
    · refine ⟨t, μ, by omega, ?_⟩
      refine ev_iload (pc' := 25) dL_law_23 rfl rfl ?_
      refine ev_aload_n (pc' := 26) dL_law_25 rfl rfl ?_
      refine ev_slen0 (pc' := 27) dL_law_26 rfl ?_
      refine ev_bipush (pc' := 29) dL_law_27 rfl (by decide) ?_
      refine ev_isub (pc' := 30) dL_law_29 rfl ?_
      refine ev_icmpgt (pc' := 33) (tgt := 2263) dL_law_30 (by decide) rfl (x1 := i) (y1 := (Ls : Int) - 6) (wr_id (by omega) (by omega)) (wr_id (by omega) (by omega)) (fun _ => ?_) (fun q2 => ?_)
      · refine ev_iconst (pc' := 2264) dL_law_2263 rfl ?_
        exact ev_ireturn dL_law_2264 rfl rfl
      · exact absurd q q2
    · obtain ⟨t1, μ1, s', ⟨t2, μ2, rfl, h2⟩, h3⟩ := ev_cases (d := d) (t := t) hn (by omega : Ls ≤ 5000) (i := i) (by omega) H (x := ian (rd μ 1001000 i) 63) (by have := ian_63 (rd μ 1001000 i); omega) (.inl (some (iv 1))) (fun _ _ s' => ∃ t2 μ2, s' = cS Ls t2 μ2 ∧ t2 ≤ t + (k + 1)) (fun t' μ' ht' H' => by
        obtain ⟨t2, μ2, h1, h2⟩ := ih (i + 6) t' μ' H' (by omega) (by omega) (by omega)
        exact ⟨_, ⟨t2, μ2, rfl, by omega⟩, ev_latch h2⟩)
      refine ⟨t2, μ2, h2, ?_⟩
      refine ev_iload (pc' := 25) dL_law_23 rfl rfl ?_
      refine ev_aload_n (pc' := 26) dL_law_25 rfl rfl ?_
      refine ev_slen0 (pc' := 27) dL_law_26 rfl ?_
      refine ev_bipush (pc' := 29) dL_law_27 rfl (by decide) ?_
      refine ev_isub (pc' := 30) dL_law_29 rfl ?_
      refine ev_icmpgt (pc' := 33) (tgt := 2263) dL_law_30 (by decide) rfl (x1 := i) (y1 := (Ls : Int) - 6) (wr_id (by omega) (by omega)) (wr_id (by omega) (by omega)) (fun q2 => absurd q2 q) (fun _ => ?_)
      refine ev_aload_n (pc' := 34) dL_law_33 rfl rfl ?_
      refine ev_iload (pc' := 36) dL_law_34 rfl rfl ?_
      refine ev_sald (pc' := 37) (by omega) dL_law_36 rfl (qLd_in (by omega)) ?_
      refine ev_bipush (pc' := 39) dL_law_37 rfl (by decide) ?_
      refine ev_iand (pc' := 40) dL_law_39 rfl ?_
      exact h3
end LLP
