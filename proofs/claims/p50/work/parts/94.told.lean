/-! WHAT IS TOLD: degrees -/
theorem St.wn {μ : qMu} {w s a : Nat} {T : List Int} {i v : Int} (h : St μ w s T) (hk : qJk μ a = 0) (ha : a < 1500) : St (up μ a i v) w s T := by
  refine ⟨h.1, ?_⟩
  rcases h.2 with h1 | ⟨⟨h1, h2, h3, h3'⟩, h4, h5, h6, h7⟩
  · exact Or.inl h1
  · have n1 : qJn (up μ a i v) = qJn μ := qJn_cg (up_ne (by omega))
    have e1 : up μ a i v (2000000 + s) = μ (2000000 + s) := up_ne (by omega)
    have q1 : s ≠ a := fun q => by rw [q, hk] at h4; omega
    have q2 : qJl μ s ≠ a := fun q => by have := h7.2.1; rw [q, hk] at this; omega
    have l1 : qJl (up μ a i v) s = qJl μ s := qJl_cg e1
    refine Or.inr ⟨⟨h1, h2, by omega, h3'⟩, (qJk_cg e1).trans h4, (rd_na q1).trans h5, by omega, ?_⟩
    rw [l1]
    exact h7.kp (up_ne q2) (up_ne (by omega)) (by omega)
theorem St.ext {μ μ' : qMu} {w s : Nat} {T : List Int} (h : St μ w s T) (f : ∀ a, 87 ≤ a → a ≠ 2000000 → μ' a = μ a) (hn : qJn μ' = qJn μ) : St μ' w s T := by
  refine ⟨h.1, ?_⟩
  rcases h.2 with h1 | ⟨⟨h1, h2, h3, h3'⟩, h4, h5, h6, h7⟩
  · exact Or.inl h1
  · have l1 : qJl μ' s = qJl μ s := qJl_cg (f _ (by omega) (by omega))
    have h8 := h7.1
    refine Or.inr ⟨⟨h1, h2, by omega, h3'⟩, (qJk_cg (f _ (by omega) (by omega))).trans h4, (rd_cg (f _ h1 (by omega)) _).trans h5, by omega, ?_⟩
    rw [l1]
    exact h7.kp (f _ (by omega) (by omega)) (f _ (by omega) (by omega)) (by omega)
theorem St.ok {μ : qMu} {w s : Nat} {T : List Int} (h : St μ w s T) : Ok T := h.1.2
theorem tD_cg {D D' : Int → Int} : ∀ j : Nat, (∀ i : Int, 0 ≤ i → i < (j : Int) → D i = D' i) → tD D j = tD D' j
  | 0, _ => rfl
  | j + 1, h => by
    unfold tD
    rw [tD_cg j (fun i i1 i2 => h i i1 (by omega)), h (j : Int) (by omega) (by omega)]
theorem rs_up4 {D : Int → Int} (hD : ∀ i, 0 ≤ D i ∧ D i ≤ 4) {k : Int} (hk : 0 ≤ k ∧ k ≤ 6) : 0 ≤ rs D 0 k ∧ rs D 0 k ≤ 32 := by
  have h1 := rs_le8 (f := D) (N := k) (K := 4) (by omega) (by omega) (fun i _ _ => (hD i).2)
  have h2 := rs_z k
  have h3 : 0 ≤ rs D 0 k := rs_nn (fun i _ _ => (hD i).1)
  omega
/-- the law's fields and what it leaves alone -/
def LF (μ0 μ : qMu) (k N m : Int) : Prop := rd μ 78 1 = k ∧ rd μ 78 2 = N ∧ rd μ 78 3 = m ∧ ∀ a, a < 78 → μ a = μ0 a
theorem LF.gr {μ0 μ μ' : qMu} {k N m : Int} {w x y : Nat} (h : LF μ0 μ k N m) (f : Gr w x y μ μ') (hw : 87 ≤ w) : LF μ0 μ' k N m :=
  ⟨(rd_cg (f.2 78 (by omega) (by omega)) 1).trans h.1, (rd_cg (f.2 78 (by omega) (by omega)) 2).trans h.2.1, (rd_cg (f.2 78 (by omega) (by omega)) 3).trans h.2.2.1, fun a ha => (f.2 a (by omega) (by omega)).trans (h.2.2.2 a ha)⟩
theorem LF.cho {μ0 μ : qMu} {k N m : Int} (h : LF μ0 μ k N m) (hk : 0 ≤ k ∧ k ≤ 5000) : LF μ0 (up μ 78 1 (k + 1)) (k + 1) N m :=
  ⟨rd_at.trans (wr_id (by omega) (by omega)), (rd_ni (by decide)).trans h.2.1, (rd_ni (by decide)).trans h.2.2.1, fun a ha => (up_ne (by omega)).trans (h.2.2.2 a ha)⟩
theorem LF.up {μ0 μ : qMu} {k N m : Int} {a : Nat} {i v : Int} (h : LF μ0 μ k N m) (ha : 79 ≤ a) : LF μ0 (up μ a i v) k N m :=
  ⟨(rd_na (by omega)).trans h.1, (rd_na (by omega)).trans h.2.1, (rd_na (by omega)).trans h.2.2.1, fun b hb => (up_ne (by omega)).trans (h.2.2.2 b hb)⟩
section TLD
variable {μ μ0 : qMu} {n Ls w1 z2 : Nat} {N m z3 z4 : Int} {D : Int → Int}
def I1 (μ0 : qMu) (N m : Int) (w1 : Nat) (D : Int → Int) (j : Nat) (z2 : Nat) (z3 : Int) (μ : qMu) : Prop :=
  (qJn μ ≤ 1 + 10 * j ∧ qJs μ ≤ 6 + 2000 * j) ∧ LF μ0 μ (2 + (j : Int)) N m ∧ (∀ a, 79 ≤ a → a ≤ 86 → μ a = μ0 a) ∧ Nu μ w1 6 ∧ (∀ i : Int, 0 ≤ i → i < (j : Int) → rd μ w1 i = D i) ∧ (∀ i, 0 ≤ D i ∧ D i ≤ 4) ∧ ((j : Int) < N → z3 = rs D 0 (j : Int)) ∧ ((j : Int) = N → rs D 0 N % 2 = 0) ∧ St μ (87 + qJn μ) z2 (tD D j)
theorem x_told1 (hn : 5000 ≤ n) (hL : Ls ≤ 5000) (hN : 1 ≤ N ∧ N ≤ 6) {j : Nat} (hj : (j : Int) < N) (h : I1 μ0 N m w1 D j z2 z3 μ) : ∃ D' y3 z2' μ', bL_told_33 n Ls w1 z2 z3 (j : Int) μ = some (.inl (z2', y3, (j : Int) + 1, μ')) ∧ I1 μ0 N m w1 D' (j + 1) z2' y3 μ' := by
  obtain ⟨⟨c1, c2⟩, hF, hR, hA, hD, hD4, hz, -, hS⟩ := h
  have hz := hz hj
  have hr := rs_up4 hD4 (k := (j : Int)) (by omega)
  obtain ⟨v, q1, q2, q3⟩ := x_chosen (m := 4) hL (by omega) hF.1 (by omega)
  obtain ⟨μ1, hμ1⟩ : ∃ μ1, μ1 = up μ 78 1 (2 + (j : Int) + 1) := ⟨_, rfl⟩
  rw [← hμ1] at q1
  have F1 : LF μ0 μ1 (2 + (j : Int) + 1) N m := by
    rw [hμ1]
    exact hF.cho (by omega)
  have o1 : ∀ a, a ≠ 78 → μ1 a = μ a := fun a ha => by
    rw [hμ1]
    exact up_ne ha
  have n1 : qJn μ1 = qJn μ := qJn_cg (o1 _ (by decide))
  have A1 : Nu μ1 w1 6 := hA.kp (o1 _ (by omega)) (by omega)
  have hw1 := hA.1
  obtain ⟨μ2, hμ2⟩ : ∃ μ2, μ2 = up μ1 w1 (j : Int) v := ⟨_, rfl⟩
  have s1 : qSi μ1 w1 (j : Int) v = some μ2 := by
    rw [hμ2]
    exact A1.si (by omega)
  have o2 : ∀ a, a ≠ w1 → μ2 a = μ1 a := fun a ha => by
    rw [hμ2]
    exact up_ne ha
  have n2 : qJn μ2 = qJn μ1 := qJn_cg (o2 _ (by omega))
  have A2 : Nu μ2 w1 6 := A1.kp (o2 _ (by omega)) (by omega)
  have r2 : rd μ2 w1 (j : Int) = v := by
    rw [hμ2, rd_at]
    exact wr_id (by omega) (by omega)
  have F2 : LF μ0 μ2 (2 + (j : Int) + 1) N m := by
    rw [hμ2]
    exact F1.up (by omega)
  -- the last is made even
  obtain ⟨x, μ3, hx, t1, t2, t3, t4, t5⟩ : ∃ (x : Int) (μ3 : qMu), (0 ≤ x ∧ x ≤ 4) ∧ (if wr (j : Int) = wr (rd μ2 78 2 - 1) then if wr (irm (z3 + v) 2) = 1 then (qLi μ2 w1 (j : Int)).bind fun x13 => (qSi μ2 w1 (j : Int) (x13 + 1)).bind fun μ14 => some μ14 else some μ2 else some μ2) = some μ3 ∧ (∀ a, a ≠ w1 → μ3 a = μ2 a) ∧ rd μ3 w1 (j : Int) = x ∧ (∀ i, i ≠ (j : Int) → rd μ3 w1 i = rd μ2 w1 i) ∧ ((j : Int) + 1 < N → x = v) ∧ ((j : Int) + 1 = N → (rs D 0 (j : Int) + x) % 2 = 0) := by
    rw [F2.2.1, wr_id (x := (j : Int)) (by omega) (by omega), wr_id (x := N - 1) (by omega) (by omega)]
    obtain ⟨-, d2⟩ := dv2 (k := z3 + v) (by omega)
    rw [d2]
    by_cases c : (j : Int) = N - 1
    · rw [if_pos c, wr_id (by omega) (by omega)]
      by_cases p : (z3 + v) % 2 = 1
      · rw [if_pos p, A2.li (by omega), obs, r2, A2.si (by omega), obs]
        refine ⟨v + 1, _, by omega, rfl, fun a ha => up_ne ha, ?_, fun i hi => rd_ni hi, fun q => by omega, fun _ => by omega⟩
        rw [rd_at]
        exact wr_id (by omega) (by omega)
      · rw [if_neg p]
        exact ⟨v, μ2, by omega, rfl, fun _ _ => rfl, r2, fun _ _ => rfl, fun _ => rfl, fun _ => by omega⟩
    · rw [if_neg c]
      exact ⟨v, μ2, by omega, rfl, fun _ _ => rfl, r2, fun _ _ => rfl, fun _ => rfl, fun q => by omega⟩
  obtain ⟨t5, t6⟩ := t5
  have n3 : qJn μ3 = qJn μ2 := qJn_cg (t2 _ (by omega))
  have n3s : qJs μ3 = qJs μ := by
    rw [qJs_cg (t2 _ (by omega)), qJs_cg (o2 _ (by omega)), qJs_cg (o1 _ (by decide))]
  have A3 : Nu μ3 w1 6 := A2.kp (t2 _ (by omega)) (by omega)
  have F3 : LF μ0 μ3 (2 + (j : Int) + 1) N m := ⟨(rd_cg (t2 _ (by omega)) 1).trans F2.1, (rd_cg (t2 _ (by omega)) 2).trans F2.2.1, (rd_cg (t2 _ (by omega)) 3).trans F2.2.2.1, fun a ha => (t2 a (by omega)).trans (F2.2.2.2 a ha)⟩
  obtain ⟨w, hw⟩ : ∃ w, w = 87 + qJn μ3 := ⟨_, rfl⟩
  have S3 : St μ3 w z2 (tD D j) := by
    have S1 : St μ1 w z2 (tD D j) := by
      have := hS.ext (μ' := μ1) (fun a ha _ => o1 a (by omega)) n1
      rw [hw, n3, n2, n1]
      exact this
    have S2 : St μ2 w z2 (tD D j) := by
      rw [hμ2]
      exact S1.wn A1.2.1 hw1.2.2
    refine ⟨S2.1, ?_⟩
    rcases S2.2 with h1 | ⟨⟨h1, h2, h3, h3'⟩, h4, h5, h6, h7⟩
    · exact Or.inl h1
    · have q1 : z2 ≠ w1 := fun q => by rw [q, A2.2.1] at h4; omega
      have q2 : qJl μ2 z2 ≠ w1 := fun q => by have := h7.2.1; rw [q, A2.2.1] at this; omega
      have l1 : qJl μ3 z2 = qJl μ2 z2 := qJl_cg (t2 _ (by omega))
      refine Or.inr ⟨⟨h1, h2, by omega, h3'⟩, (qJk_cg (t2 _ (by omega))).trans h4, (rd_cg (t2 _ q1) _).trans h5, by omega, ?_⟩
      rw [l1]
      exact h7.kp (t2 _ q2) (t2 _ (by have := hw1; omega)) (by omega)
  obtain ⟨D', hD'⟩ : ∃ D' : Int → Int, D' = fun i => if i = (j : Int) then x else D i := ⟨_, rfl⟩
  have eD : ∀ i : Int, i < (j : Int) → D' i = D i := fun i hi => by
    rw [hD']
    exact if_neg (by omega)
  have eDj : D' (j : Int) = x := by
    rw [hD']
    exact if_pos rfl
  have ers : rs D' 0 ((j : Int) + 1) = rs D 0 (j : Int) + x := by
    rw [rs_last (by omega), eDj, rs_congr (g := D) (fun k k1 k2 => eD k k2)]
  have etD : tD D' (j + 1) = (tD D j ++ [32]) ++ [48 + x] := by
    show (tD D' j ++ [32]) ++ [48 + D' (j : Int)] = _
    rw [eDj, tD_cg j (fun i _ i2 => eD i i2)]
  have hl := tD_l D j
  -- the text
  obtain ⟨yb, ν1, b1, b2, b3, b4, b5, b6⟩ := x_newb (μ := μ3) hw (by omega) (by omega)
  obtain ⟨ν2, v2, p2, d1, d2, d3⟩ := x_app (S := tD D j) b5 (S3.kp b6 ⟨Nat.le_refl _, by have := b6.1; omega, by omega⟩) ⟨by have := b6.1; omega, by omega⟩ (by have := b6.1; omega) (by have := b6.1; omega) (by rw [hl]; show 0 + _ ≤ _; omega)
  rw [List.nil_append] at d2
  obtain ⟨ν3, v3, p3, e1, e2, e3⟩ := x_app d2 (st_b ν2 w) ⟨by have := b6.1; have := d3.1; omega, by omega⟩ (by have := b6.1; have := d3.1; omega) (by have := b6.1; have := d3.1; omega) (by rw [hl]; show _ + 1 ≤ _; omega)
  have g3 := (b6.tr d3).tr e3
  have g3c := g3.1
  have A4 : Nu ν3 w1 6 := A3.kp (g3.2 _ (by omega) (by omega)) g3.1.1
  have l4 : qLi ν3 w1 (j : Int) = some x := by
    rw [A4.li (by omega), rd_cg (g3.2 _ (by omega) (by omega)), t3]
  have hl3 : (tD D j ++ [32]).length = 8 + 2 * j := by
    rw [List.length_append, hl]
    show 7 + 2 * j + 1 = _
    omega
  obtain ⟨ν4, v4, p4, f1, f2, f3⟩ := x_appd (n := n) (d := x) hn e2 (by omega) ⟨by omega, by omega⟩ (by omega) (by omega) (by omega)
  have g4 := g3.tr f3
  have g4c := g4.1
  have hl4 : ((tD D j ++ [32]) ++ [48 + x]).length = 9 + 2 * j := by
    rw [List.length_append, hl3]
    show 8 + 2 * j + 1 = _
    omega
  obtain ⟨z2', ν5, k1, k2, k3⟩ := x_tos f2 (by omega) (by omega) (by omega) (by omega) ((S3.ok.app ok_b).dig (d := x) (by omega))
  have g5 := g4.tr k3
  have g5c := g5.1
  have F5 := F3.gr g5 (by omega)
  have l2 : qLi μ2 w1 (j : Int) = some v := by rw [A2.li (by omega), r2]
  rw [l2] at t1
  refine ⟨D', z3 + v, z2', ν5, ?_, ⟨by omega, by omega⟩, by rw [show 2 + ((j + 1 : Nat) : Int) = 2 + (j : Int) + 1 by omega]; exact F5, fun a a1 a2 => ?_, A3.kp (g5.2 _ (by omega) (by omega)) g5.1.1, fun i i1 i2 => ?_, fun i => ?_, fun q => ?_, fun q => ?_, by rw [etD]; exact k2⟩
  · unfold bL_told_33
    rw [hF.2.1, if_pos (show wr (j : Int) < wr N by rw [wr_id (by omega) (by omega), wr_id (by omega) (by omega)]; exact hj), q1, obs]
    dsimp only
    rw [s1, obs, l2, obs]
    rw [t1, obs, b1, obs, b2, b3, obs, b4, obs, b5.is.2.1, obs, d1, obs]
    dsimp only
    rw [d2.is.2.1, obs, e1, obs]
    dsimp only
    rw [l4, obs, e2.is.2.1, obs, f1, obs]
    dsimp only
    rw [f2.is.2.1, obs, k1, obs]
  · rw [g5.2 _ (by omega) (by omega), t2 _ (by omega), o2 _ (by omega), o1 _ (by omega)]
    exact hR a a1 a2
  · rw [rd_cg (g5.2 _ (by omega) (by omega))]
    by_cases c : i = (j : Int)
    · rw [c, t3, eDj]
    · rw [t4 i c, hμ2, rd_ni c, rd_cg (o1 _ (by omega)), eD i (by omega)]
      exact hD i i1 (by omega)
  · rw [hD']
    dsimp only
    split
    · exact hx
    · exact hD4 i
  · rw [show ((j + 1 : Nat) : Int) = (j : Int) + 1 by omega, ers, hz, t5 (by omega)]
  · rw [show N = (j : Int) + 1 by omega, ers]
    exact t6 (by omega)
theorem x_told1s (hn : 5000 ≤ n) (hL : Ls ≤ 5000) (hN : 1 ≤ N ∧ N ≤ 6) : ∀ (d j k : Nat) (D : Int → Int) (z2 : Nat) (z3 : Int) (μ : qMu), (j : Int) + (d : Int) = N → d < k → I1 μ0 N m w1 D j z2 z3 μ → ∃ D' z2' y3 μ', lp (fun x : Nat × Int × Int × qMu => bL_told_33 n Ls w1 x.1 x.2.1 x.2.2.1 x.2.2.2) k (z2, z3, (j : Int), μ) = some (z2', μ') ∧ I1 μ0 N m w1 D' N.toNat z2' y3 μ'
  | 0, j, k, D, z2, z3, μ, hj, hk, h => by
    obtain ⟨k, rfl⟩ : ∃ k', k = k' + 1 := ⟨k - 1, by omega⟩
    have e : j = N.toNat := by omega
    have hF := h.2.1
    refine ⟨D, z2, z3, μ, ?_, by rw [← e]; exact h⟩
    rw [lp_s]
    dsimp only
    unfold bL_told_33
    rw [hF.2.1, if_neg (show ¬ wr (j : Int) < wr N by rw [wr_id (by omega) (by omega), wr_id (by omega) (by omega)]; omega)]
    rfl
  | d + 1, j, k, D, z2, z3, μ, hj, hk, h => by
    obtain ⟨k, rfl⟩ : ∃ k', k = k' + 1 := ⟨k - 1, by omega⟩
    obtain ⟨D1, y1, z1, μ1, h1, h2⟩ := x_told1 hn hL hN (by omega) h
    obtain ⟨D', z2', y3, μ', h3, h4⟩ := x_told1s hn hL hN d (j + 1) k D1 z1 y1 μ1 (by omega) (by omega) h2
    refine ⟨D', z2', y3, μ', ?_, h4⟩
    rw [lp_s]
    dsimp only
    rw [h1]
    exact h3
/-- the table laid: loops, and the odd ones joined two by two -/
theorem x_told2 (hN : 1 ≤ N ∧ N ≤ 6) (hA : Nu μ w1 6) (hF : rd μ 78 2 = N) (hD4 : ∀ i, 0 ≤ D i ∧ D i ≤ 4) (hD : ∀ i : Int, 0 ≤ i → i < N → rd μ w1 i = D i) {j : Nat} (hj : (j : Int) < N) (hT : Tab μ (b0 D j).2) {Lo : Nat} : ∃ μ', bL_told_123 n Ls w1 Lo (b0 D j).1 (j : Int) μ = some (.inl ((b0 D (j + 1)).1, (j : Int) + 1, μ')) ∧ Tab μ' (b0 D (j + 1)).2 ∧ ∀ a, (a < 81 ∨ 86 < a) → μ' a = μ a := by
  have hB := b0_ok (l := D) (fun i => by have := hD4 i; omega) j (by omega)
  have hz := hB.1
  have hk := hD4 (j : Int)
  obtain ⟨d1, d2⟩ := dv2 (k := D (j : Int)) (by omega)
  have h0 : (b0 D j).2 (j : Int) (j : Int) = 0 := Classical.byContradiction fun q => by have := (hB.2.2.2.2.1 _ _ q).1; omega
  obtain ⟨p1, p2⟩ := hT.put (i := (j : Int)) (j := (j : Int)) (k := D (j : Int) / 2) (v := D (j : Int) / 2) (by omega) (by omega) (by omega)
  obtain ⟨μ1, hμ1⟩ : ∃ μ1, μ1 = up μ (81 + (j : Int).toNat) (j : Int) (D (j : Int) / 2) := ⟨_, rfl⟩
  rw [← hμ1] at p1 p2
  have o1 : ∀ a, (a < 81 ∨ 86 < a) → μ1 a = μ a := fun a ha => by
    rw [hμ1]
    exact up_ne (by omega)
  have hw1 := hA.1
  have l0 : qLi μ w1 (j : Int) = some (D (j : Int)) := by rw [hA.li (by omega), hD _ (by omega) hj]
  have A1 : Nu μ1 w1 6 := hA.kp (o1 _ (by omega)) (Nat.le_of_eq (qJn_cg (o1 _ (by omega))).symm)
  have l1 : qLi μ1 w1 (j : Int) = some (D (j : Int)) := by rw [A1.li (by omega), rd_cg (o1 _ (by omega)), hD _ (by omega) hj]
  have head : bL_told_123 n Ls w1 Lo (b0 D j).1 (j : Int) μ = (if wr (irm (D (j : Int)) 2) = 0 then some ((b0 D j).1, μ1) else (if wr (b0 D j).1 < 0 then some μ1 else (qLa qR80 (b0 D j).1).bind fun x37 => (qLd μ1 x37 6 (j : Int)).bind fun x38 => (qSa μ1 x37 6 (j : Int) (x38 + 1)).bind fun μ39 => some μ39).bind fun y36 => some ((if wr (b0 D j).1 < 0 then (j : Int) else (-1)), y36)).bind fun y34 => some (.inl (y34.1, (j : Int) + 1, y34.2)) := by
    unfold bL_told_123
    rw [hF, if_pos (show wr (j : Int) < wr N by rw [wr_id (by omega) (by omega), wr_id (by omega) (by omega)]; exact hj), qLa80i (by omega), obs, l0, obs, d1, p1, obs, l1, obs]
  rw [head, d2, wr_id (x := D (j : Int) % 2) (by omega) (by omega), wr_id (x := (b0 D j).1) (by omega) (by omega)]
  by_cases c1 : D (j : Int) % 2 = 0
  · have e : b0 D (j + 1) = ((b0 D j).1, addc (b0 D j).2 (j : Int) (j : Int) (D (j : Int) / 2)) := if_pos c1
    rw [e, if_pos c1, obs]
    exact ⟨μ1, rfl, p2, o1⟩
  · by_cases c2 : (b0 D j).1 = -1
    · have e : b0 D (j + 1) = ((j : Int), addc (b0 D j).2 (j : Int) (j : Int) (D (j : Int) / 2)) := (if_neg c1).trans (if_pos c2)
      rw [e, if_neg c1, if_pos (by omega), if_pos (by omega), obs, obs]
      exact ⟨μ1, rfl, p2, o1⟩
    · have e : b0 D (j + 1) = (-1, addc (addc (b0 D j).2 (j : Int) (j : Int) (D (j : Int) / 2)) (b0 D j).1 (j : Int) 1) := (if_neg c1).trans (if_neg c2)
      obtain ⟨a1, a2⟩ := p2.at (i := (b0 D j).1) (j := (j : Int)) (by omega)
      have h3 := hB.2.2.1 (b0 D j).1 (j : Int)
      have h2 := hB.2.1 (b0 D j).1 (j : Int)
      have h4 : addc (b0 D j).2 (j : Int) (j : Int) (D (j : Int) / 2) (b0 D j).1 (j : Int) = (b0 D j).2 (b0 D j).1 (j : Int) := by
        rw [addc_pl, if_neg (by omega), Int.add_zero]
      obtain ⟨q1, q2⟩ := p2.put (i := (b0 D j).1) (j := (j : Int)) (k := 1) (v := addc (b0 D j).2 (j : Int) (j : Int) (D (j : Int) / 2) (b0 D j).1 (j : Int) + 1) (by omega) rfl (by rw [h4]; omega)
      rw [e, if_neg c1, if_neg (by omega), if_neg (by omega), a1, obs, a2, obs, q1, obs, obs, obs]
      exact ⟨_, rfl, q2, fun a ha => (up_ne (by omega)).trans (o1 a ha)⟩
theorem x_told2s (hN : 1 ≤ N ∧ N ≤ 6) (hD4 : ∀ i, 0 ≤ D i ∧ D i ≤ 4) {Lo : Nat} : ∀ (d j k : Nat) (μ : qMu), (j : Int) + (d : Int) = N → d < k → Nu μ w1 6 → rd μ 78 2 = N → (∀ i : Int, 0 ≤ i → i < N → rd μ w1 i = D i) → Tab μ (b0 D j).2 → ∃ μ', lp (fun x : Int × Int × qMu => bL_told_123 n Ls w1 Lo x.1 x.2.1 x.2.2) k ((b0 D j).1, (j : Int), μ) = some μ' ∧ Tab μ' (b0 D N.toNat).2 ∧ ∀ a, (a < 81 ∨ 86 < a) → μ' a = μ a
  | 0, j, k, μ, hj, hk, hA, hF, hD, hT => by
    obtain ⟨k, rfl⟩ : ∃ k', k = k' + 1 := ⟨k - 1, by omega⟩
    have e : j = N.toNat := by omega
    refine ⟨μ, ?_, by rw [← e]; exact hT, fun _ _ => rfl⟩
    rw [lp_s]
    dsimp only
    unfold bL_told_123
    rw [hF, if_neg (show ¬ wr (j : Int) < wr N by rw [wr_id (by omega) (by omega), wr_id (by omega) (by omega)]; omega)]
    rfl
  | d + 1, j, k, μ, hj, hk, hA, hF, hD, hT => by
    obtain ⟨k, rfl⟩ : ∃ k', k = k' + 1 := ⟨k - 1, by omega⟩
    obtain ⟨μ1, h1, h2, h3⟩ := x_told2 (n := n) (Ls := Ls) (Lo := Lo) hN hA hF hD4 hD (j := j) (by omega) hT
    have hw1 := hA.1
    obtain ⟨μ', h4, h5, h6⟩ := x_told2s hN hD4 d (j + 1) k μ1 (by omega) (by omega) (hA.kp (h3 _ (by omega)) (Nat.le_of_eq (qJn_cg (h3 _ (by omega))).symm)) ((rd_cg (h3 78 (by omega)) 2).trans hF) (fun i i1 i2 => (rd_cg (h3 _ (by omega)) i).trans (hD i i1 i2)) h2
    refine ⟨μ', ?_, h5, fun a ha => (h6 a ha).trans (h3 a ha)⟩
    rw [lp_s]
    dsimp only
    rw [h1]
    exact h4
end TLD
