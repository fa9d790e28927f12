/-! WHAT IS TOLD: edges, the whole text -/
theorem tE_cg {T : List Int} {U V U' V' : Nat → Int} : ∀ j : Nat, (∀ i, i < j → U i = U' i ∧ V i = V' i) → tE T U V j = tE T U' V' j
  | 0, _ => rfl
  | j + 1, h => by
    unfold tE
    rw [tE_cg j (fun i hi => h i (by omega)), (h j (by omega)).1, (h j (by omega)).2]
theorem eds_cg {c : Int → Int → Int} {U V U' V' : Nat → Int} : ∀ j : Nat, (∀ i, i < j → U i = U' i ∧ V i = V' i) → eds U V c j = eds U' V' c j
  | 0, _ => rfl
  | j + 1, h => by
    unfold eds
    rw [eds_cg j (fun i hi => h i (by omega)), (h j (by omega)).1, (h j (by omega)).2]
theorem eds_r {c : Int → Int → Int} {U V : Nat → Int} (hc : ∀ u v, 0 ≤ c u v ∧ c u v ≤ 500) : ∀ (j : Nat) (u v : Int), 0 ≤ eds U V c j u v ∧ eds U V c j u v ≤ 500 + (j : Int)
  | 0, u, v => by
    have := hc u v
    show 0 ≤ c u v ∧ c u v ≤ _
    omega
  | j + 1, u, v => by
    have := eds_r (U := U) (V := V) hc j u v
    show 0 ≤ addc (eds U V c j) (U j) (V j) 1 u v ∧ addc (eds U V c j) (U j) (V j) 1 u v ≤ _
    rw [addc_pl]
    split <;> omega
theorem ok_e1 : Ok [101, 100, 103, 101, 32] := ok_e
section TLE
variable {μ μ0 : qMu} {n Ls w1 z2 : Nat} {N m z3 z4 : Int} {D : Int → Int} {c0 : Int → Int → Int} {U V : Nat → Int} {T0 : List Int}
def I3 (μ0 : qMu) (N m : Int) (T0 : List Int) (c0 : Int → Int → Int) (U V : Nat → Int) (j : Nat) (z2 : Nat) (μ : qMu) : Prop :=
  (qJn μ ≤ 80 + 10 * j ∧ qJs μ ≤ 16000 + 3000 * j) ∧ LF μ0 μ (3 + N + 2 * (j : Int)) N m ∧ Tab μ (eds U V c0 j) ∧ (∀ i, i < j → (0 ≤ U i ∧ U i < N) ∧ (0 ≤ V i ∧ V i < N)) ∧ St μ (87 + qJn μ) z2 (tE T0 U V j)
theorem x_told3 (hn : 5000 ≤ n) (hL : Ls ≤ 5000) (hN : 1 ≤ N ∧ N ≤ 6) (hT0 : T0.length ≤ 40) (hc0 : ∀ u v, 0 ≤ c0 u v ∧ c0 u v ≤ 500) {j : Nat} (hj : j < 3) {z5 : Int} (hz : 0 < z5 ∧ z5 ≤ 3) (h : I3 μ0 N m T0 c0 U V j z2 μ) : ∃ U' V' z2' μ', bL_told_237 n Ls z2 z5 μ = some (.inl (z2', z5 + (-1), μ')) ∧ I3 μ0 N m T0 c0 U' V' (j + 1) z2' μ' := by
  obtain ⟨⟨c1, c2⟩, hF, hT, hU, hS⟩ := h
  obtain ⟨u, q1, u1, u2⟩ := x_chosen (m := N) hL (by omega) hF.1 (by omega)
  obtain ⟨μ1, hμ1⟩ : ∃ μ1, μ1 = up μ 78 1 (3 + N + 2 * (j : Int) + 1) := ⟨_, rfl⟩
  rw [← hμ1] at q1
  have F1 : LF μ0 μ1 (3 + N + 2 * (j : Int) + 1) N m := by
    rw [hμ1]
    exact hF.cho (by omega)
  have o1 : ∀ a, a ≠ 78 → μ1 a = μ a := fun a ha => by
    rw [hμ1]
    exact up_ne ha
  obtain ⟨v, q2, v1, v2⟩ := x_chosen (m := N) hL (by omega) F1.1 (by omega)
  obtain ⟨μ2, hμ2⟩ : ∃ μ2, μ2 = up μ1 78 1 (3 + N + 2 * (j : Int) + 1 + 1) := ⟨_, rfl⟩
  rw [← hμ2] at q2
  have F2 : LF μ0 μ2 (3 + N + 2 * (j : Int) + 1 + 1) N m := by
    rw [hμ2]
    exact F1.cho (by omega)
  have o2 : ∀ a, a ≠ 78 → μ2 a = μ a := fun a ha => by
    rw [hμ2]
    exact (up_ne ha).trans (o1 a ha)
  have n2 : qJn μ2 = qJn μ := qJn_cg (o2 _ (by decide))
  have n2s : qJs μ2 = qJs μ := qJs_cg (o2 _ (by decide))
  obtain ⟨w, hw⟩ : ∃ w, w = 87 + qJn μ2 := ⟨_, rfl⟩
  have S2 : St μ2 w z2 (tE T0 U V j) := by
    have := hS.ext (μ' := μ2) (fun a ha _ => o2 a (by omega)) n2
    rw [hw, n2]
    exact this
  have T2 : Tab μ2 (eds U V c0 j) := hT.kp (fun a _ _ => o2 a (by omega))
  have hl := tE_l T0 U V j
  obtain ⟨yb, ν1, b1, b2, b3, b4, b5, b6⟩ := x_newb (μ := μ2) hw (by omega) (by omega)
  obtain ⟨ν2, x2, p2, d1, d2, d3⟩ := x_app (S := tE T0 U V j) b5 (S2.kp b6 ⟨Nat.le_refl _, by have := b6.1; omega, by omega⟩) ⟨by have := b6.1; omega, by omega⟩ (by have := b6.1; omega) (by have := b6.1; omega) (by rw [hl]; show 0 + _ ≤ _; omega)
  rw [List.nil_append] at d2
  have g2 := b6.tr d3
  have g2c := g2.1
  obtain ⟨ν3, x3, p3, e1, e2, e3⟩ := x_app d2 (st_e ν2 w) ⟨by omega, by omega⟩ (by omega) (by omega) (by rw [hl]; show _ + 5 ≤ _; omega)
  have g3 := g2.tr e3
  have g3c := g3.1
  have l3 : (tE T0 U V j ++ [101, 100, 103, 101, 32]).length = T0.length + 9 * j + 5 := by
    rw [List.length_append, hl]
    rfl
  obtain ⟨ν4, x4, p4, f1, f2, f3⟩ := x_appd (n := n) (d := u) hn e2 (by omega) ⟨by omega, by omega⟩ (by omega) (by omega) (by omega)
  have g4 := g3.tr f3
  have g4c := g4.1
  have l4 : ((tE T0 U V j ++ [101, 100, 103, 101, 32]) ++ [48 + u]).length = T0.length + 9 * j + 6 := by
    rw [List.length_append, l3]
    rfl
  obtain ⟨ν5, x5, p5, h1, h2, h3⟩ := x_app f2 (st_b ν4 w) ⟨by omega, by omega⟩ (by omega) (by omega) (by rw [l4]; show _ + 1 ≤ _; omega)
  have g5 := g4.tr h3
  have g5c := g5.1
  have l5 : (((tE T0 U V j ++ [101, 100, 103, 101, 32]) ++ [48 + u]) ++ [32]).length = T0.length + 9 * j + 7 := by
    rw [List.length_append, l4]
    rfl
  obtain ⟨ν6, x6, p6, i1, i2, i3⟩ := x_appd (n := n) (d := v) hn h2 (by omega) ⟨by omega, by omega⟩ (by omega) (by omega) (by omega)
  have g6 := g5.tr i3
  have g6c := g6.1
  have l6 : ((((tE T0 U V j ++ [101, 100, 103, 101, 32]) ++ [48 + u]) ++ [32]) ++ [48 + v]).length = T0.length + 9 * j + 8 := by
    rw [List.length_append, l5]
    rfl
  obtain ⟨ν7, x7, p7, j1, j2, j3⟩ := x_app i2 (st_s ν6 w) ⟨by omega, by omega⟩ (by omega) (by omega) (by rw [l6]; show _ + 1 ≤ _; omega)
  have g7 := g6.tr j3
  have g7c := g7.1
  have l7 : (((((tE T0 U V j ++ [101, 100, 103, 101, 32]) ++ [48 + u]) ++ [32]) ++ [48 + v]) ++ [59]).length = T0.length + 9 * j + 9 := by
    rw [List.length_append, l6]
    rfl
  obtain ⟨z2', ν8, k1, k2, k3⟩ := x_tos j2 (by omega) (by omega) (by omega) (by omega) (((((S2.ok.app ok_e).dig (d := u) (by omega)).app ok_b).dig (d := v) (by omega)).app ok_s)
  have g8 := g7.tr k3
  have g8c := g8.1
  have F8 := F2.gr g8 (by omega)
  have T8 : Tab ν8 (eds U V c0 j) := T2.kp (fun a a1 a2 => g8.2 a (by omega) (by omega))
  have hr := eds_r (U := U) (V := V) hc0 j
  -- one more in the table
  obtain ⟨a, b, ha, hb, hab, hadd⟩ : ∃ a b : Int, mn u v = a ∧ mx u v = b ∧ (0 ≤ a ∧ a ≤ b ∧ b < 6) ∧ addc (eds U V c0 j) a b 1 = addc (eds U V c0 j) u v 1 := by
    by_cases q : v < u
    · exact ⟨v, u, by rw [mn_id (by omega) (by omega), if_pos q], by rw [mx_id (by omega) (by omega), if_neg (by omega)], by omega, addc_sw _ _ _ _⟩
    · refine ⟨u, v, by rw [mn_id (by omega) (by omega), if_neg q], ?_, by omega, rfl⟩
      rw [mx_id (by omega) (by omega)]
      split <;> omega
  obtain ⟨t1, t2⟩ := T8.at hab
  obtain ⟨t3, t4⟩ := T8.put (k := 1) (v := eds U V c0 j a b + 1) hab rfl (by have := hr a b; omega)
  obtain ⟨μ9, hμ9⟩ : ∃ μ9, μ9 = up ν8 (81 + a.toNat) b (eds U V c0 j a b + 1) := ⟨_, rfl⟩
  rw [← hμ9] at t3 t4
  have o9 : ∀ x, (x < 81 ∨ 86 < x) → μ9 x = ν8 x := fun x hx => by
    rw [hμ9]
    exact up_ne (by omega)
  have n9 : qJn μ9 = qJn ν8 := qJn_cg (o9 _ (by omega))
  have n9s : qJs μ9 = qJs ν8 := qJs_cg (o9 _ (by omega))
  obtain ⟨U', hU'⟩ : ∃ U' : Nat → Int, U' = fun i => if i = j then u else U i := ⟨_, rfl⟩
  obtain ⟨V', hV'⟩ : ∃ V' : Nat → Int, V' = fun i => if i = j then v else V i := ⟨_, rfl⟩
  have eU : ∀ i, i < j → U i = U' i ∧ V i = V' i := fun i hi => by
    rw [hU', hV']
    exact ⟨(if_neg (by omega)).symm, (if_neg (by omega)).symm⟩
  have eUj : U' j = u ∧ V' j = v := by
    rw [hU', hV']
    exact ⟨if_pos rfl, if_pos rfl⟩
  have et : tE T0 U' V' (j + 1) = ((((tE T0 U V j ++ [101, 100, 103, 101, 32]) ++ [48 + u]) ++ [32]) ++ [48 + v]) ++ [59] := by
    show ((((tE T0 U' V' j ++ [101, 100, 103, 101, 32]) ++ [48 + U' j]) ++ [32]) ++ [48 + V' j]) ++ [59] = _
    rw [eUj.1, eUj.2, tE_cg j eU]
  have ec : eds U' V' c0 (j + 1) = addc (eds U V c0 j) a b 1 := by
    show addc (eds U' V' c0 j) (U' j) (V' j) 1 = _
    rw [eUj.1, eUj.2, ← eds_cg j eU]
    exact hadd.symm
  refine ⟨U', V', z2', μ9, ?_, ⟨by omega, by omega⟩, ⟨?_, ?_, ?_, fun x hx => (o9 x (by omega)).trans (F8.2.2.2 x hx)⟩, by rw [ec]; exact t4, fun i hi => ?_, ?_⟩
  · unfold bL_told_237
    rw [if_pos (show 0 < wr z5 by rw [wr_id (by omega) (by omega)]; omega), hF.2.1, q1, obs]
    dsimp only
    rw [F1.2.1, q2, obs]
    dsimp only
    rw [b1, obs, b2, b3, obs, b4, obs, b5.is.2.1, obs, d1, obs]
    dsimp only
    rw [d2.is.2.1, obs, e1, obs]
    dsimp only
    rw [e2.is.2.1, obs, f1, obs]
    dsimp only
    rw [f2.is.2.1, obs, h1, obs]
    dsimp only
    rw [h2.is.2.1, obs, i1, obs]
    dsimp only
    rw [i2.is.2.1, obs, j1, obs]
    dsimp only
    rw [j2.is.2.1, obs, k1, obs]
    dsimp only
    rw [ha, hb, t1, obs, t2, obs, t3, obs]
  · rw [rd_cg (o9 78 (by omega)), F8.1]
    omega
  · exact (rd_cg (o9 78 (by omega)) 2).trans F8.2.1
  · exact (rd_cg (o9 78 (by omega)) 3).trans F8.2.2.1
  · by_cases q : i = j
    · rw [q, eUj.1, eUj.2]
      omega
    · have := eU i (by omega)
      rw [← this.1, ← this.2]
      exact hU i (by omega)
  · rw [et, n9]
    exact k2.ext (fun x hx _ => o9 x (by omega)) n9
theorem x_told3s (hn : 5000 ≤ n) (hL : Ls ≤ 5000) (hN : 1 ≤ N ∧ N ≤ 6) (hT0 : T0.length ≤ 40) (hc0 : ∀ u v, 0 ≤ c0 u v ∧ c0 u v ≤ 500) {K : Nat} (hK : K ≤ 3) : ∀ (d j k : Nat) (U V : Nat → Int) (z2 : Nat) (μ : qMu), j + d = K → d < k → I3 μ0 N m T0 c0 U V j z2 μ → ∃ U' V' z2' μ', lp (fun x : Nat × Int × qMu => bL_told_237 n Ls x.1 x.2.1 x.2.2) k (z2, (d : Int), μ) = some (z2', μ') ∧ I3 μ0 N m T0 c0 U' V' K z2' μ'
  | 0, j, k, U, V, z2, μ, hj, hk, h => by
    obtain ⟨k, rfl⟩ : ∃ k', k = k' + 1 := ⟨k - 1, by omega⟩
    have e : j = K := by omega
    refine ⟨U, V, z2, μ, ?_, by rw [← e]; exact h⟩
    rw [lp_s]
    rfl
  | d + 1, j, k, U, V, z2, μ, hj, hk, h => by
    obtain ⟨k, rfl⟩ : ∃ k', k = k' + 1 := ⟨k - 1, by omega⟩
    obtain ⟨U1, V1, z1, μ1, h1, h2⟩ := x_told3 hn hL hN hT0 hc0 (j := j) (by omega) (z5 := ((d + 1 : Nat) : Int)) (by omega) h
    obtain ⟨U', V', z2', μ', h3, h4⟩ := x_told3s hn hL hN hT0 hc0 hK d (j + 1) k U1 V1 z1 μ1 (by omega) (by omega) h2
    refine ⟨U', V', z2', μ', ?_, h4⟩
    rw [lp_s]
    dsimp only
    rw [h1, show ((d + 1 : Nat) : Int) + (-1) = (d : Int) by omega]
    exact h3
/-- the whole of what is told -/
def Tld (μ0 μ : qMu) (N m : Int) (D : Int → Int) (K : Nat) (U V : Nat → Int) (s : Nat) : Prop :=
  (1 ≤ N ∧ N ≤ 6) ∧ (0 ≤ m ∧ m ≤ 2) ∧ K ≤ 3 ∧ (∀ i, 0 ≤ D i ∧ D i ≤ 4) ∧ rs D 0 N % 2 = 0 ∧ (∀ i, i < K → (0 ≤ U i ∧ U i < N) ∧ (0 ≤ V i ∧ V i < N)) ∧ LF μ0 μ (3 + N + 2 * (K : Int)) N m ∧ Tab μ (eds U V (b0 D N.toNat).2 K) ∧ St μ (87 + qJn μ) s (tE (tM (tD D N.toNat) m) U V K) ∧ qJn μ ≤ 200 ∧ qJs μ ≤ 30000
theorem x_told (hn : 5000 ≤ n) (hL : Ls ≤ 5000) (h1 : rd μ 78 1 = 0) (h2 : qJn μ = 0 ∧ qJs μ = 0) (h3 : ∀ a, 81 ≤ a → a ≤ 86 → ∀ i : Int, 0 ≤ i → i < 6 → rd μ a i = 0) : ∃ N m D K U V s μ', fL_told n Ls μ = some (s, μ') ∧ Tld μ μ' N m D K U V s := by
  obtain ⟨v0, q1, u1, u2⟩ := x_chosen (m := 6) hL (by omega) h1 (by omega)
  obtain ⟨μ1, hμ1⟩ : ∃ μ1, μ1 = up (up μ 78 1 (0 + 1)) 78 2 (1 + v0) := ⟨_, rfl⟩
  have o1 : ∀ a, a ≠ 78 → μ1 a = μ a := fun a ha => by
    rw [hμ1]
    exact (up_ne ha).trans (up_ne ha)
  have r11 : rd μ1 78 1 = 1 := by
    rw [hμ1, rd_ni (by decide), rd_at]
    rfl
  obtain ⟨m, q2, m1, m2⟩ := x_chosen (m := 3) hL (by omega) r11 (by omega)
  obtain ⟨μ2, hμ2⟩ : ∃ μ2, μ2 = up (up μ1 78 1 (1 + 1)) 78 3 m := ⟨_, rfl⟩
  have o2 : ∀ a, a ≠ 78 → μ2 a = μ a := fun a ha => by
    rw [hμ2]
    exact ((up_ne ha).trans (up_ne ha)).trans (o1 a ha)
  obtain ⟨N, hNe⟩ : ∃ N, N = 1 + v0 := ⟨_, rfl⟩
  have F2 : LF μ μ2 2 N m := by
    refine ⟨?_, ?_, ?_, fun a ha => o2 a (by omega)⟩
    · rw [hμ2, rd_ni (by decide), rd_at]
      rfl
    · rw [hμ2, rd_ni (by decide), rd_ni (by decide), hμ1, rd_at, wr_id (by omega) (by omega), hNe]
    · rw [hμ2, rd_at, wr_id (by omega) (by omega)]
  have n2 : qJn μ2 = 0 ∧ qJs μ2 = 0 := ⟨(qJn_cg (o2 _ (by decide))).trans h2.1, (qJs_cg (o2 _ (by decide))).trans h2.2⟩
  obtain ⟨μ3, a1, a2, a3, a4⟩ := nw_num (μ := μ2) (l := 6) (by omega) (by omega) (by omega)
  rw [n2.1] at a1 a2 a3 a4
  have a4c := a4.1
  have I : I1 μ2 N m 87 (fun _ => 0) 0 1000005 0 μ3 := by
    refine ⟨⟨by omega, by omega⟩, ?_, fun a a1 a2 => a4.2 a (by omega) (by omega), a2, fun i i1 i2 => by omega, fun _ => ⟨Int.le_refl _, by show (0 : Int) ≤ 4; decide⟩, fun _ => rfl, fun q => by omega, st_d _ _⟩
    have := (show LF μ2 μ2 2 N m from ⟨F2.1, F2.2.1, F2.2.2.1, fun _ _ => rfl⟩).gr a4 (by omega)
    exact this
  obtain ⟨D, z1, y3, μ4, b1, b2⟩ := x_told1s hn hL (by omega) N.toNat 0 n _ _ _ μ3 (by omega) (by omega) I
  obtain ⟨⟨c1, c2⟩, cF, cR, cA, cD, cD4, -, cE, cS⟩ := b2
  have T4 : Tab μ4 (b0 D 0).2 := fun i j hi hj => by
    rw [rd_cg (cR _ (by omega) (by omega)), rd_cg (o2 _ (by omega)), h3 _ (by omega) (by omega) _ (by omega) (by omega)]
    split <;> rfl
  obtain ⟨μ5, d1, d2, d3⟩ := x_told2s (n := n) (Ls := Ls) (Lo := z1) (by omega : 1 ≤ N ∧ N ≤ 6) cD4 N.toNat 0 n μ4 (by omega) (by omega) cA cF.2.1 (fun i i1 i2 => cD i i1 (by omega)) T4
  have n5 : qJn μ5 = qJn μ4 := qJn_cg (d3 _ (by omega))
  have n5s : qJs μ5 = qJs μ4 := qJs_cg (d3 _ (by omega))
  have F5 : LF μ2 μ5 (2 + N) N m := ⟨(rd_cg (d3 78 (by omega)) 1).trans (cF.1.trans (by omega)), (rd_cg (d3 78 (by omega)) 2).trans cF.2.1, (rd_cg (d3 78 (by omega)) 3).trans cF.2.2.1, fun a ha => (d3 a (by omega)).trans (cF.2.2.2 a ha)⟩
  obtain ⟨w, hw⟩ : ∃ w, w = 87 + qJn μ5 := ⟨_, rfl⟩
  have S5 : St μ5 w z1 (tD D N.toNat) := by
    have := cS.ext (μ' := μ5) (fun a ha _ => d3 a (by omega)) n5
    rw [hw, n5]
    exact this
  have hl := tD_l D N.toNat
  obtain ⟨yb, ν1, e1, e2, e3, e4, e5, e6⟩ := x_newb (μ := μ5) hw (by omega) (by omega)
  obtain ⟨ν2, x2, p2, f1, f2, f3⟩ := x_app (S := tD D N.toNat) e5 (S5.kp e6 ⟨Nat.le_refl _, by have := e6.1; omega, by omega⟩) ⟨by have := e6.1; omega, by omega⟩ (by have := e6.1; omega) (by have := e6.1; omega) (by rw [hl]; show 0 + _ ≤ _; omega)
  rw [List.nil_append] at f2
  have g2 := e6.tr f3
  have g2c := g2.1
  obtain ⟨ν3, x3, p3, h1', h2', h3'⟩ := x_app f2 (st_m ν2 w) ⟨by omega, by omega⟩ (by omega) (by omega) (by rw [hl]; show _ + 6 ≤ _; omega)
  have g3 := g2.tr h3'
  have g3c := g3.1
  have F3 := F5.gr g3 (by omega)
  have l3 : (tD D N.toNat ++ [59, 109, 111, 100, 101, 32]).length = 7 + 2 * N.toNat + 6 := by
    rw [List.length_append, hl]
    rfl
  obtain ⟨ν4, x4, p4, i1, i2, i3⟩ := x_appd (n := n) (d := m) hn h2' (by omega) ⟨by omega, by omega⟩ (by omega) (by omega) (by omega)
  have g4 := g3.tr i3
  have g4c := g4.1
  have l4 : ((tD D N.toNat ++ [59, 109, 111, 100, 101, 32]) ++ [48 + m]).length = 7 + 2 * N.toNat + 7 := by
    rw [List.length_append, l3]
    rfl
  obtain ⟨ν5, x5, p5, j1, j2, j3⟩ := x_app i2 (st_s ν4 w) ⟨by omega, by omega⟩ (by omega) (by omega) (by rw [l4]; show _ + 1 ≤ _; omega)
  have g5 := g4.tr j3
  have g5c := g5.1
  have l5 : (((tD D N.toNat ++ [59, 109, 111, 100, 101, 32]) ++ [48 + m]) ++ [59]).length = 7 + 2 * N.toNat + 8 := by
    rw [List.length_append, l4]
    rfl
  obtain ⟨z2, ν6, k1, k2, k3⟩ := x_tos j2 (by omega) (by omega) (by omega) (by omega) (((S5.ok.app ok_m).dig (d := m) (by omega)).app ok_s)
  have g6 := g5.tr k3
  have g6c := g6.1
  have F6 := F5.gr g6 (by omega)
  have T6 : Tab ν6 (b0 D N.toNat).2 := d2.kp (fun a a1 a2 => g6.2 a (by omega) (by omega))
  obtain ⟨K, q3, K1, K2⟩ := x_chosen (m := 4) hL (by omega) F6.1 (by omega)
  obtain ⟨μ7, hμ7⟩ : ∃ μ7, μ7 = up ν6 78 1 (2 + N + 1) := ⟨_, rfl⟩
  rw [← hμ7] at q3
  have o7 : ∀ a, a ≠ 78 → μ7 a = ν6 a := fun a ha => by
    rw [hμ7]
    exact up_ne ha
  have F7 : LF μ2 μ7 (2 + N + 1) N m := by
    rw [hμ7]
    exact F6.cho (by omega)
  have n7 : qJn μ7 = qJn ν6 := qJn_cg (o7 _ (by decide))
  have n7s : qJs μ7 = qJs ν6 := qJs_cg (o7 _ (by decide))
  have hB := b0_ok (l := D) (fun i => by have := cD4 i; omega) N.toNat (by omega)
  have hc0 : ∀ u v, 0 ≤ (b0 D N.toNat).2 u v ∧ (b0 D N.toNat).2 u v ≤ 500 := fun u v => by
    have h1 := hB.2.1 u v
    have h2 := hB.2.2.1 u v
    omega
  have I' : I3 μ2 N m (tM (tD D N.toNat) m) (b0 D N.toNat).2 (fun _ => 0) (fun _ => 0) 0 z2 μ7 := by
    refine ⟨⟨by omega, by omega⟩, ?_, T6.kp (fun a _ _ => o7 a (by omega)), fun i hi => by omega, ?_⟩
    · rw [show 3 + N + 2 * ((0 : Nat) : Int) = 2 + N + 1 by omega]
      exact F7
    · rw [n7]
      exact k2.ext (fun a ha _ => o7 a (by omega)) n7
  obtain ⟨U, V, s, μ8, r1, r2⟩ := x_told3s hn hL (by omega) (by rw [tM_l, hl]; omega) hc0 (K := K.toNat) (by omega) K.toNat 0 n _ _ _ _ (by omega) (by omega) I'
  rw [show ((K.toNat : Nat) : Int) = K by omega] at r1
  obtain ⟨⟨s1, s2⟩, sF, sT, sU, sS⟩ := r2
  refine ⟨N, m, D, K.toNat, U, V, s, μ8, ?_, by omega, by omega, by omega, cD4, cE (by omega), sU, ⟨sF.1, sF.2.1, sF.2.2.1, fun a ha => (sF.2.2.2 a ha).trans (o2 a (by omega))⟩, sT, sS, by omega, by omega⟩
  have ef : fL_from Ls 1 6 μ = some (1 + v0, up μ 78 1 (0 + 1)) := by
    unfold fL_from
    rw [show (6 : Int) - 1 + 1 = 6 from rfl, q1, obs]
  unfold fL_told
  rw [ef, obs]
  dsimp only
  rw [qPf_eq, obs, ← hμ1, q2, obs]
  dsimp only
  rw [qPf_eq, obs, ← hμ2]
  show (qNw μ2 0 ((6 : Nat) : Int)).bind _ = _
  rw [a1, obs]
  dsimp only
  rw [show (87 + 0 : Nat) = 87 from rfl]
  have b1' : lp (fun x : Nat × Int × Int × qMu => bL_told_33 n Ls 87 x.1 x.2.1 x.2.2.1 x.2.2.2) n (1000005, 0, 0, μ3) = some (z1, μ4) := b1
  rw [b1', obs]
  dsimp only
  have d1' : lp (fun x : Int × Int × qMu => bL_told_123 n Ls 87 z1 x.1 x.2.1 x.2.2) n (-1, 0, μ4) = some μ5 := d1
  rw [d1', obs, e1, obs, e2, e3, obs, e4, obs, e5.is.2.1, obs, f1, obs]
  dsimp only
  rw [f2.is.2.1, obs, h1', obs]
  dsimp only
  rw [h2'.is.2.1, obs, F3.2.2.1, i1, obs]
  dsimp only
  rw [i2.is.2.1, obs, j1, obs]
  dsimp only
  rw [j2.is.2.1, obs, k1, obs]
  dsimp only
  rw [q3, obs]
  dsimp only
  rw [r1, obs]
end TLE
