/-! BUILDERS: a text put behind, a digit put behind, a text made -/
section BLD
variable {μ : qMu} {n w b v cap s : Nat} {T S : List Int} {M d : Int}
theorem x_newLen {p q r : Int} (hp : 0 ≤ p ∧ p ≤ 1000) (hq : 0 < q ∧ q ≤ 1000) (hr : 0 ≤ r ∧ r ≤ 1000) : fJ8_newLength_cabcc p q r μ = some (p + if q < r then r else q) := by
  have e : mx q r = if q < r then r else q := mx_id (by omega) (by omega)
  have hm : 0 < (if q < r then r else q) ∧ (if q < r then r else q) ≤ 1000 := by split <;> omega
  unfold fJ8_newLength_cabcc
  rw [e, wr_id (by omega) (by omega), if_pos (by omega), if_neg (by omega)]
theorem x_newCap (h : Bl μ w b v cap T) (hM : (cap : Int) < M ∧ M ≤ 200) : fJ5_newCapacity_0f7a4 b M μ = some (if M - (cap : Int) < (cap : Int) + 2 then 2 * (cap : Int) + 2 else M) := by
  obtain ⟨h1, h2, h3, h4, h5⟩ := h.is
  have hl := h.2.2.2.2.2.2.len
  have hc := h.2.2.2.2.2.2.2.2.2.1
  unfold fJ5_newCapacity_0f7a4
  rw [h5, obs, hl, obs, h3, obs, obs, (sh_0 (by omega)).1, sh_2, x_newLen (by omega) (by omega) (by omega), obs]
  by_cases c : M - (cap : Int) < (cap : Int) + 2
  · rw [if_pos c, if_pos c, wr_id (by omega) (by omega), if_neg (by omega), obs, (sh_0 (by omega)).2]
    congr 1
    omega
  · rw [if_neg c, if_neg c, wr_id (by omega) (by omega), if_neg (by omega), obs, (sh_0 (by omega)).2]
    congr 1
    omega
/-- room for M bytes -/
theorem x_ens (h : Bl μ w b v cap T) (hw : w ≤ 87 + qJn μ) (hn : qJn μ < 700) (hs : qJs μ < 70000) (hM : 0 ≤ M ∧ M ≤ 150) (hc : cap ≤ 302) : ∃ μ' v' cap', fJ5_ensureCapacityInternal_d00df b M μ = some μ' ∧ Bl μ' w b v' cap' T ∧ M ≤ (cap' : Int) ∧ Gr w 1 302 μ μ' := by
  obtain ⟨h1, h2, h3, h4, h5⟩ := h.is
  have hv := h.2.2.2.2.2.2
  have hl := hv.len
  have e0 : fJ5_ensureCapacityInternal_d00df b M μ = if 0 < wr (M - (cap : Int)) then (fJ5_newCapacity_0f7a4 b M μ).bind fun y7 => (fJ7_copyOf_9075b v (ishl y7 0) μ).bind fun y9 => (qPr y9.2 b 11 y9.1).bind fun μ10 => some μ10 else some μ := by
    unfold fJ5_ensureCapacityInternal_d00df
    rw [h5, obs, hl, obs, h3, obs, (sh_0 (by omega)).2]
    by_cases c : 0 < wr (M - (cap : Int))
    · rw [if_pos c, if_pos c, obs, h1, obs]
      rfl
    · rw [if_neg c, if_neg c]
  rw [e0, wr_id (by omega) (by omega)]
  by_cases c : 0 < M - (cap : Int)
  · obtain ⟨C, hC⟩ : ∃ C : Int, C = if M - (cap : Int) < (cap : Int) + 2 then 2 * (cap : Int) + 2 else M := ⟨_, rfl⟩
    have hC2 : (cap : Int) < C ∧ M ≤ C ∧ C ≤ 302 := by
      rw [hC]
      split <;> omega
    obtain ⟨a1, a2, a3⟩ := nw_row (μ := μ) (M := C) (by omega) (by omega) (by omega)
    obtain ⟨μ1, hμ1⟩ : ∃ μ1, μ1 = qNewm μ (fun _ => 0) 1 C.toNat C.toNat := ⟨_, rfl⟩
    have g1 : Gr w 1 302 μ μ1 := by
      rw [hμ1]
      exact (Gr.new hw (by omega) (by omega) (by omega)).wk (Nat.le_refl _) (Nat.le_refl _) (by omega)
    rw [← hμ1] at a1 a2 a3
    have g0 : ∀ a, a < 87 + qJn μ ∨ (1500 ≤ a ∧ a < 2000000 + (87 + qJn μ)) → a ≠ 2000000 → μ1 a = μ a := fun a q1 q2 => by
      rw [hμ1]
      exact qNewm_o (by omega) (by omega) q2
    have hb1 : Bl μ1 w b v cap T := h.kp (g0 _ (by have := h.2.1; omega) (by have := h.2.1; omega)) (g0 _ (by have := h.2.1; omega) (by have := h.2.1; omega)) (g0 _ (by have := hv.1; omega) (by have := hv.1; omega)) (g0 _ (by have := hv.1; omega) (by have := hv.1; omega)) g1.1.1
    have hv1 := hb1.2.2.2.2.2.2
    have hne : v ≠ 87 + qJn μ := by have := hv.1; omega
    have a4 := cp_row (s := cap) (u := v) (sp := 0) (dp := 0) (l := (cap : Int)) a2 hv1.src (by omega) hne (by omega) (by omega) (fun j hj => hv1.2.2.2.2.2 j hj)
    obtain ⟨μ2, hμ2⟩ : ∃ μ2, μ2 = qCpm μ1 (fun j : Nat => μ1 v (j : Int)) 0 (87 + qJn μ) 0 (cap : Int) := ⟨_, rfl⟩
    have g2 : ∀ a, a ≠ 87 + qJn μ → μ2 a = μ1 a := fun a ha => by
      rw [hμ2]
      exact cpm_ne ha
    have g2' : Gr w 0 0 μ1 μ2 := Gr.one g2 (Or.inl (by omega))
    have r2 : Rw μ2 (87 + qJn μ) C.toNat T := by
      have e1 : ∀ j : Nat, j < cap → rd μ2 (87 + qJn μ) (j : Int) = rd μ1 v (j : Int) := fun j hj => by
        rw [hμ2, cpm_at, if_pos (by omega), show ((0 : Int) + ((j : Int) - 0)).toNat = j by omega]
        rfl
      have e2 : ∀ j : Nat, ¬ j < cap → rd μ2 (87 + qJn μ) (j : Int) = 0 := fun j hj => by
        rw [hμ2, cpm_at, if_neg (by omega), a3]
      refine ⟨⟨by omega, by rw [qJn_cg (g2 2000000 (by omega))]; exact a2.1.2.1, by omega⟩, (qJk_cg (g2 _ (by omega))).trans a2.2.1, (qJl_cg (g2 _ (by omega))).trans a2.2.2.1, ⟨by have := hv.2.2.2.1; omega, by omega⟩, fun j hj => ?_, fun j _ => ?_⟩
      · rw [e1 j (by have := hv.2.2.2.1; omega)]
        exact hv1.2.2.2.2.1 j hj
      · by_cases q : j < cap
        · rw [e1 j q]
          exact hv1.2.2.2.2.2 j q
        · rw [e2 j q]
          omega
    have hb2 : Bl μ2 w b v cap T := hb1.kp (g2 _ (by have := h.2.1; omega)) (g2 _ (by have := h.2.1; omega)) (g2 _ (by have := hv.1; omega)) (g2 _ (by have := hv.1; omega)) g2'.1.1
    obtain ⟨μ3, hμ3⟩ : ∃ μ3, μ3 = qSv μ2 b (87 + qJn μ) := ⟨_, rfl⟩
    have g3 : ∀ a, a ≠ 2000000 + b → μ3 a = μ2 a := fun a ha => by
      rw [hμ3]
      unfold qSv
      rw [if_neg ha]
    have g3' : Gr w 0 0 μ2 μ3 := Gr.one g3 (Or.inr (by have := h.1; have := h.2.1; omega))
    refine ⟨μ3, 87 + qJn μ, C.toNat, ?_, ⟨⟨h.1.1, by omega, by have := h.2.1; omega⟩, ⟨h.2.1.1, by have := hb2.2.1; rw [qJn_cg (g3 2000000 (by have := h.2.1; omega))]; omega, h.2.1.2.2⟩, ?_, ?_, ?_, ?_, ?_⟩, by omega, (g1.tr g2').tr g3' |>.wk (Nat.le_refl _) (Nat.le_refl _) (Nat.le_refl _)⟩
    · rw [if_pos c, x_newCap h (by omega), ← hC, obs, (sh_0 (by omega)).1]
      have e1 : fJ7_copyOf_9075b v C μ = some (87 + qJn μ, μ2) := by
        unfold fJ7_copyOf_9075b
        have em : mn (cap : Int) C = (cap : Int) := by
          rw [mn_id (by omega) (by omega), if_neg (by omega)]
        rw [hl, obs, wr_id (by omega) (by omega), wr_id (by omega) (by omega), if_neg (by omega), a1, obs, hv1.len, obs, em, a4, obs, ← hμ2]
      rw [e1, obs]
      have e2 : qPr μ2 b 11 (87 + qJn μ) = some μ3 := by
        unfold qPr
        rw [if_pos ⟨⟨hb2.2.1, Or.inr ⟨rfl, Or.inl hb2.2.2.1⟩⟩, by omega⟩, hμ3]
      show (qPr μ2 b 11 (87 + qJn μ)).bind _ = _
      rw [e2, obs]
    · rw [hμ3]
      unfold qJk qSv
      rw [if_pos rfl, if_pos rfl]
      have e1 : qJk μ2 b = 3 := hb2.2.2.1
      rw [if_neg (by omega)]
      rfl
    · rw [hμ3]
      unfold qJl qSv
      rw [if_pos rfl, if_neg (by decide), if_pos rfl]
      exact qofN (by omega)
    · rw [rd_cg (g3 b (by omega))]
      exact hb2.2.2.2.2.1
    · rw [rd_cg (g3 b (by omega))]
      exact hb2.2.2.2.2.2.1
    · exact r2.kp (g3 _ (by omega)) (g3 _ (by have := h.2.1; omega)) g3'.1.1
  · rw [if_neg c]
    exact ⟨μ, v, cap, rfl, h, by omega, (Gr.rf w μ).wk (Nat.le_refl _) (by omega) (by omega)⟩
theorem getD_app {T S : List Int} {j : Nat} : (T ++ S).getD j 0 = if j < T.length then T.getD j 0 else S.getD (j - T.length) 0 := by
  by_cases h : j < T.length
  · rw [if_pos h, List.getD_eq_getElem?_getD, List.getD_eq_getElem?_getD, List.getElem?_append_left h]
  · rw [if_neg h, List.getD_eq_getElem?_getD, List.getD_eq_getElem?_getD, List.getElem?_append_right (by omega)]
/-- a text put behind -/
theorem x_app (h : Bl μ w b v cap T) (hS : St μ w s S) (hw : w ≤ 87 + qJn μ ∧ w ≤ 1500) (hn : qJn μ < 700) (hs : qJs μ < 70000) (hl : T.length + S.length ≤ 100) : ∃ μ' v' cap', fJ4_append_15ec4 b s μ = some (b, μ') ∧ Bl μ' w b v' cap' (T ++ S) ∧ Gr w 1 302 μ μ' := by
  obtain ⟨μ1, v1, cap1, a1, a2, a3, a4⟩ := x_ens (M := (T.length : Int) + (S.length : Int)) h hw.1 hn hs (by omega) (by have := h.2.2.2.2.2.2.2.2.2.1; omega)
  have hS1 : St μ1 w s S := hS.kp a4 ⟨Nat.le_refl _, by have := a4.1.1; omega, hw.2⟩
  obtain ⟨h1, h2, h3, h4, h5⟩ := h.is
  obtain ⟨b1, b2, b3, b4, b5⟩ := a2.is
  obtain ⟨s1, s2, vs, f, s3, s4, s5, s6, s7⟩ := hS1.is
  have hv1 := a2.2.2.2.2.2.2
  have hne : vs ≠ v1 := by have := a2.1; have := hv1.1; omega
  have c1 := cp_row (sp := 0) (dp := (T.length : Int)) (l := (S.length : Int)) hv1 s4 (by omega) hne (by omega) (by omega) (fun j hj => by rw [s6 j hj]; exact hS.1.2 j hj)
  obtain ⟨μ2, hμ2⟩ : ∃ μ2, μ2 = qCpm μ1 f 0 v1 (T.length : Int) (S.length : Int) := ⟨_, rfl⟩
  rw [← hμ2] at c1
  have g2 : ∀ a, a ≠ v1 → μ2 a = μ1 a := fun a ha => by
    rw [hμ2]
    exact cpm_ne ha
  have g2' : Gr w 0 0 μ1 μ2 := Gr.one g2 (Or.inl ⟨a2.1.2.1, hv1.1.2.2⟩)
  have e1 : ∀ j : Nat, ¬ (T.length ≤ j ∧ j < T.length + S.length) → rd μ2 v1 (j : Int) = rd μ1 v1 (j : Int) := fun j hj => by
    rw [hμ2, cpm_at, if_neg (by omega)]
  have e2 : ∀ j : Nat, (T.length ≤ j ∧ j < T.length + S.length) → rd μ2 v1 (j : Int) = S.getD (j - T.length) 0 := fun j hj => by
    rw [hμ2, cpm_at, if_pos (by omega), show ((0 : Int) + ((j : Int) - (T.length : Int))).toNat = j - T.length by omega]
    exact s6 _ (by omega)
  have hlen : (T ++ S).length = T.length + S.length := List.length_append
  have r2 : Rw μ2 v1 cap1 (T ++ S) := by
    refine ⟨⟨hv1.1.1, by rw [qJn_cg (g2 2000000 (by have := hv1.1; omega))]; exact hv1.1.2.1, hv1.1.2.2⟩, (qJk_cg (g2 _ (by omega))).trans hv1.2.1, (qJl_cg (g2 _ (by omega))).trans hv1.2.2.1, ⟨by omega, hv1.2.2.2.1.2⟩, fun j hj => ?_, fun j hj => ?_⟩
    · rw [getD_app]
      by_cases q : j < T.length
      · rw [if_pos q, e1 j (by omega)]
        exact hv1.2.2.2.2.1 j q
      · rw [if_neg q, e2 j (by omega)]
    · by_cases q : T.length ≤ j ∧ j < T.length + S.length
      · rw [e2 j q]
        exact hS.1.2 _ (by omega)
      · rw [e1 j q]
        exact hv1.2.2.2.2.2 j hj
  have hb2 : Bl μ2 w b v1 cap1 T := by
    refine ⟨a2.1, ⟨a2.2.1.1, by rw [qJn_cg (g2 2000000 (by have := hv1.1; omega))]; exact a2.2.1.2.1, a2.2.1.2.2⟩, (qJk_cg (g2 _ (by have := hv1.1; have := a2.2.1; omega))).trans a2.2.2.1, (qJl_cg (g2 _ (by have := hv1.1; have := a2.2.1; omega))).trans a2.2.2.2.1, ?_, ?_, ?_⟩
    · rw [rd_cg (g2 b (by have := a2.1; omega))]
      exact a2.2.2.2.2.1
    · rw [rd_cg (g2 b (by have := a2.1; omega))]
      exact a2.2.2.2.2.2.1
    · obtain ⟨r1, r3, r4, r5, r6, r7⟩ := r2
      refine ⟨r1, r3, r4, by omega, fun j hj => ?_, r7⟩
      rw [r6 j (by omega), getD_app, if_pos hj]
  obtain ⟨d1, d2, d3, d4, d5⟩ := hb2.is
  have ew : wr ((T.length : Int) + (S.length : Int)) = ((T ++ S).length : Int) := by
    rw [hlen, wr_id (by omega) (by omega)]
    omega
  refine ⟨up μ2 b 3 ((T.length : Int) + (S.length : Int)), v1, cap1, ?_, ⟨a2.1, ⟨a2.2.1.1, by rw [qJn_cg (up_ne (by have := a2.2.1; omega))]; exact hb2.2.1.2.1, a2.2.1.2.2⟩, ?_, ?_, ?_, ?_, r2.kp (up_ne (by have := a2.1; omega)) (up_ne (by have := a2.2.1; omega)) (Nat.le_of_eq (qJn_cg (up_ne (by have := a2.2.1; omega))).symm)⟩, ((a4.tr g2').tr (Gr.up ⟨a2.1.1, a2.2.1.2.2⟩)).wk (Nat.le_refl _) (Nat.le_refl _) (Nat.le_refl _)⟩
  · unfold fJ4_append_15ec4 fJ5_append_cf1ce
    rw [h1, obs, hS.is.1, obs, hS.len, obs, h4, obs, obs, a1, obs, b4, obs, b1, obs]
    have e3 : fJ5_putStringAt_47b60 b (T.length : Int) s μ1 = some μ2 := by
      have i1 : fJ5_inflateIfNeededFor_a7421 b s μ1 = some () := by
        unfold fJ5_inflateIfNeededFor_a7421
        rw [b3, obs, s1, obs, s2, obs, if_pos rfl]
      unfold fJ5_putStringAt_47b60 fJ0_getBytes_840e7
      rw [b1, obs, i1, obs, b5, obs, b3, obs, s1, obs, obs, s2, obs, if_pos rfl, s3, obs, obs, s5, obs, (sh_0 (by omega)).1, c1, obs, obs]
    rw [e3, obs, d4, obs]
    have e4 : qPj μ2 b 11 3 ((T.length : Int) + (S.length : Int)) = some (up μ2 b 3 ((T.length : Int) + (S.length : Int))) := by
      unfold qPj
      rw [if_pos ⟨⟨hb2.2.1, Or.inr ⟨rfl, Or.inl hb2.2.2.1⟩⟩, Or.inr ⟨rfl, rfl⟩⟩]
    rw [e4, obs, obs]
  · exact (qJk_cg (up_ne (by have := a2.2.1; omega))).trans hb2.2.2.1
  · exact (qJl_cg (up_ne (by have := a2.2.1; omega))).trans hb2.2.2.2.1
  · rw [rd_ni (by decide)]
    exact hb2.2.2.2.2.1
  · rw [rd_at]
    exact ew
theorem x_size (hn : 5000 ≤ n) (hd : 0 ≤ d ∧ d ≤ 9) : fJ6_stringSize_0f7a4 n d μ = some 1 := by
  obtain ⟨m, rfl⟩ : ∃ m, n = m + 1 := ⟨n - 1, by omega⟩
  have e1 : ¬ wr d < 0 := by
    rw [wr_id (by omega) (by omega)]
    omega
  unfold fJ6_stringSize_0f7a4
  rw [if_neg e1, if_neg e1, lp_s]
  have e2 : bJ6_stringSize_0f7a4_16 (m + 1) (-d) 0 (-10) 1 μ = some (.inr (.inr (1 + 0))) := by
    unfold bJ6_stringSize_0f7a4_16
    rw [if_pos (by decide), wr_id (by omega) (by omega), wr_id (by omega) (by omega), if_pos (by omega)]
  dsimp only
  rw [e2]
  rfl
theorem nar_b : ∀ k : Nat, k < 128 → qNr .byte (k : Int) = (k : Int) := by decide +kernel
theorem x_chars {i : Int} (hn : 5000 ≤ n) (hd : 0 ≤ d ∧ d ≤ 9) (hv : Rw μ v cap T) (hi : 0 ≤ i ∧ i < (cap : Int)) : fJ6_getChars_ba4f3 n d (i + 1) v μ = some (i, up μ v i (48 + d)) := by
  obtain ⟨m, rfl⟩ : ∃ m, n = m + 1 := ⟨n - 1, by omega⟩
  have e1 : ¬ wr d < 0 := by
    rw [wr_id (by omega) (by omega)]
    omega
  have e2 : bJ6_getChars_ba4f3_22 (m + 1) v 0 (-d) (i + 1) μ = some (.inr (-d, i + 1, μ)) := by
    unfold bJ6_getChars_ba4f3_22
    rw [wr_id (by omega) (by omega), if_pos (by omega)]
  have e3 : lp (fun x : Int × Int × qMu => bJ6_getChars_ba4f3_22 (m + 1) v 0 x.1 x.2.1 x.2.2) (m + 1) (-d, i + 1, μ) = some (-d, i + 1, μ) := by
    rw [lp_s]
    dsimp only
    rw [e2]
    rfl
  have e4 : qLb μ 1000300 (- -d) = some (48 + d) := by
    have : ∀ k : Nat, k < 10 → (Int32.ofNat (48 + k % 10)).toInt = 48 + (k : Int) := by decide
    have h := this d.toNat (by omega)
    unfold qLb qSrc
    rw [if_pos (by omega)]
    show (if (0 ≤ - -d ∧ - -d < ((100 : Nat) : Int)) ∧ 100 ≤ 5000 then some (Int32.ofNat (48 + (- -d).toNat % 10)).toInt else none) = _
    rw [if_pos ⟨by omega, by omega⟩, show (- -d).toNat = d.toNat by omega, h]
    congr 1
    omega
  have e5 : qSb μ v (i + 1 + -1) (48 + d) = some (up μ v i (48 + d)) := by
    have := nar_b (48 + d).toNat (by omega)
    rw [show (((48 + d).toNat : Nat) : Int) = 48 + d by omega] at this
    unfold qSb
    rw [if_pos ⟨⟨hv.1, hv.2.1⟩, by rw [hv.2.2.1]; omega, by rw [hv.2.2.1]; have := hv.2.2.2.1; omega⟩, this, show i + 1 + -1 = i by omega]
  unfold fJ6_getChars_ba4f3
  rw [if_neg e1, if_pos c0w, e3, obs]
  dsimp only
  rw [e4, obs, e5, obs, wr_id (by omega) (by omega), if_neg (by omega), if_pos c0w, obs, show i + 1 + -1 = i by omega]
theorem getD_one {x : Int} {j : Nat} : (T ++ [x]).getD j 0 = if j = T.length then x else T.getD j 0 := by
  rw [getD_app]
  by_cases h : j < T.length
  · rw [if_pos h, if_neg (by omega)]
  · rw [if_neg h]
    by_cases h2 : j = T.length
    · rw [if_pos h2, h2, Nat.sub_self]
      rfl
    · rw [if_neg h2, List.getD_eq_getElem?_getD, List.getD_eq_getElem?_getD, List.getElem?_eq_none (by show 1 ≤ j - T.length; omega), List.getElem?_eq_none (by omega)]
/-- a digit put behind -/
theorem x_appd (hN : 5000 ≤ n) (h : Bl μ w b v cap T) (hd : 0 ≤ d ∧ d ≤ 9) (hw : w ≤ 87 + qJn μ ∧ w ≤ 1500) (hn : qJn μ < 700) (hs : qJs μ < 70000) (hl : T.length + 1 ≤ 100) : ∃ μ' v' cap', fJ4_append_bf812 n b d μ = some (b, μ') ∧ Bl μ' w b v' cap' (T ++ [48 + d]) ∧ Gr w 1 302 μ μ' := by
  obtain ⟨μ1, v1, cap1, a1, a2, a3, a4⟩ := x_ens (M := (T.length : Int) + 1) h hw.1 hn hs (by omega) (by have := h.2.2.2.2.2.2.2.2.2.1; omega)
  obtain ⟨h1, h2, h3, h4, h5⟩ := h.is
  obtain ⟨b1, b2, b3, b4, b5⟩ := a2.is
  have hv1 := a2.2.2.2.2.2.2
  obtain ⟨μ2, hμ2⟩ : ∃ μ2, μ2 = up μ1 v1 (T.length : Int) (48 + d) := ⟨_, rfl⟩
  have c1 := x_chars (n := n) (d := d) (i := (T.length : Int)) hN hd hv1 (by omega)
  rw [← hμ2] at c1
  have g2 : ∀ a, a ≠ v1 → μ2 a = μ1 a := fun a ha => by
    rw [hμ2]
    exact up_ne ha
  have g2' : Gr w 0 0 μ1 μ2 := Gr.one g2 (Or.inl ⟨a2.1.2.1, hv1.1.2.2⟩)
  have e1 : ∀ j : Nat, j ≠ T.length → rd μ2 v1 (j : Int) = rd μ1 v1 (j : Int) := fun j hj => by
    rw [hμ2, rd_ni (by omega)]
  have e2 : rd μ2 v1 (T.length : Int) = 48 + d := by
    rw [hμ2, rd_at]
    exact wr_id (by omega) (by omega)
  have hlen : (T ++ [48 + d]).length = T.length + 1 := List.length_append
  have r2 : Rw μ2 v1 cap1 (T ++ [48 + d]) := by
    refine ⟨⟨hv1.1.1, by rw [qJn_cg (g2 2000000 (by have := hv1.1; omega))]; exact hv1.1.2.1, hv1.1.2.2⟩, (qJk_cg (g2 _ (by omega))).trans hv1.2.1, (qJl_cg (g2 _ (by omega))).trans hv1.2.2.1, ⟨by omega, hv1.2.2.2.1.2⟩, fun j hj => ?_, fun j hj => ?_⟩
    · rw [getD_one]
      by_cases q : j = T.length
      · rw [if_pos q, q, e2]
      · rw [if_neg q, e1 j q]
        exact hv1.2.2.2.2.1 j (by omega)
    · by_cases q : j = T.length
      · rw [q, e2]
        omega
      · rw [e1 j q]
        exact hv1.2.2.2.2.2 j hj
  have kb : qJk μ2 b = 3 := (qJk_cg (g2 _ (by have := hv1.1; have := a2.2.1; omega))).trans a2.2.2.1
  have hb2 : 87 ≤ b ∧ b < 87 + qJn μ2 ∧ b < 1500 := ⟨a2.2.1.1, by rw [qJn_cg (g2 2000000 (by have := hv1.1; omega))]; exact a2.2.1.2.1, a2.2.1.2.2⟩
  have ew : wr ((T.length : Int) + 1) = ((T ++ [48 + d]).length : Int) := by
    rw [hlen, wr_id (by omega) (by omega)]
    omega
  refine ⟨up μ2 b 3 ((T.length : Int) + 1), v1, cap1, ?_, ⟨a2.1, ⟨a2.2.1.1, by rw [qJn_cg (up_ne (by have := a2.2.1; omega))]; exact hb2.2.1, a2.2.1.2.2⟩, ?_, ?_, ?_, ?_, r2.kp (up_ne (by have := a2.1; omega)) (up_ne (by have := a2.2.1; omega)) (Nat.le_of_eq (qJn_cg (up_ne (by have := a2.2.1; omega))).symm)⟩, ((a4.tr g2').tr (Gr.up ⟨a2.1.1, a2.2.1.2.2⟩)).wk (Nat.le_refl _) (Nat.le_refl _) (Nat.le_refl _)⟩
  · have i1 : fJ5_isLatin1_aae02 b μ1 = some 1 := by
      unfold fJ5_isLatin1_aae02
      rw [b3, obs, if_pos c0w]
    have e4 : qPj μ2 b 11 3 ((T.length : Int) + 1) = some (up μ2 b 3 ((T.length : Int) + 1)) := by
      unfold qPj
      rw [if_pos ⟨⟨hb2, Or.inr ⟨rfl, Or.inl kb⟩⟩, Or.inr ⟨rfl, rfl⟩⟩]
    unfold fJ4_append_bf812 fJ5_append_c97b9
    rw [h1, obs, h4, obs, x_size hN hd, obs, obs, a1, obs, b1, obs, i1, obs, if_neg c1w, b5, obs, c1, obs, obs, e4, obs, obs]
  · exact (qJk_cg (up_ne (by have := a2.2.1; omega))).trans kb
  · exact (qJl_cg (up_ne (by have := a2.2.1; omega))).trans ((qJl_cg (g2 _ (by have := hv1.1; have := a2.2.1; omega))).trans a2.2.2.2.1)
  · rw [rd_ni (by decide), rd_cg (g2 b (by have := a2.1; omega))]
    exact a2.2.2.2.2.1
  · rw [rd_at]
    exact ew
/-- a new builder -/
theorem x_newb (hw : w = 87 + qJn μ) (hn : qJn μ < 700) (hs : qJs μ < 70000) : ∃ y μ', qNo μ 11 = some y ∧ y.1 = w ∧ qCn y.2 w 11 = some () ∧ fJ4_init_da8c8 w y.2 = some μ' ∧ Bl μ' w w (w + 1) 16 [] ∧ Gr w 2 20 μ μ' := by
  obtain ⟨μ1, hμ1⟩ : ∃ μ1, μ1 = qNewm μ (fun _ => 0) 5 0 4 := ⟨_, rfl⟩
  have n1 : qJn μ1 = qJn μ + 1 := by
    rw [hμ1]
    exact qNewm_n (by omega)
  have s1 : qJs μ1 = qJs μ + 4 := by
    rw [hμ1]
    exact qNewm_s (by omega) (by omega) (by omega)
  have k1 : qJk μ1 w = 5 := by
    rw [hμ1, hw]
    exact qNewm_k (by omega) (by omega)
  have g1 : Gr w 1 4 μ μ1 := by
    rw [hμ1]
    exact Gr.new (by omega) (by omega) (by omega) (by omega)
  have hb1 : 87 ≤ w ∧ w < 87 + qJn μ1 ∧ w < 1500 := by omega
  have c1 : qCn μ1 w 11 = some () := by
    unfold qCn
    rw [if_pos ⟨hb1, Or.inr ⟨rfl, Or.inr k1⟩⟩]
  obtain ⟨a1, a2, a3⟩ := nw_row (μ := μ1) (M := 16) (by omega) (by omega) (by omega)
  rw [show 87 + qJn μ1 = w + 1 by omega] at a1 a2 a3
  obtain ⟨μ2, hμ2⟩ : ∃ μ2, μ2 = qNewm μ1 (fun _ => 0) 1 (16 : Int).toNat (16 : Int).toNat := ⟨_, rfl⟩
  rw [← hμ2] at a1 a2 a3
  have g2 : Gr w 1 16 μ1 μ2 := by
    rw [hμ2]
    exact Gr.new (by omega) (by omega) (by omega) (by decide)
  have g2o : ∀ a, a = w ∨ a = 2000000 + w → μ2 a = μ1 a := fun a ha => by
    rw [hμ2]
    exact qNewm_o (by omega) (by omega) (by omega)
  have k2 : qJk μ2 w = 5 := (qJk_cg (g2o _ (Or.inr rfl))).trans k1
  have n2 := g2.1.1
  have hb2 : 87 ≤ w ∧ w < 87 + qJn μ2 ∧ w < 1500 := by omega
  obtain ⟨μ3, hμ3⟩ : ∃ μ3, μ3 = qSv μ2 w (w + 1) := ⟨_, rfl⟩
  have g3 : ∀ a, a ≠ 2000000 + w → μ3 a = μ2 a := fun a ha => by
    rw [hμ3]
    unfold qSv
    rw [if_neg ha]
  have g3' : Gr w 0 0 μ2 μ3 := Gr.one g3 (Or.inr (by omega))
  have k3 : qJk μ3 w = 3 := by
    rw [hμ3]
    unfold qJk qSv
    rw [if_pos rfl, if_pos rfl]
    have e1 : qJk μ2 w = 5 := k2
    rw [if_neg (by omega)]
    rfl
  have l3 : qJl μ3 w = w + 1 := by
    rw [hμ3]
    unfold qJl qSv
    rw [if_pos rfl, if_neg (by decide), if_pos rfl]
    exact qofN (by omega)
  have n3 : qJn μ3 = qJn μ2 := qJn_cg (g3 _ (by omega))
  have hb3 : 87 ≤ w ∧ w < 87 + qJn μ3 ∧ w < 1500 := by omega
  have z3 : rd μ3 w 3 = 0 := by
    rw [rd_cg (g3 w (by omega)), rd_cg (g2o w (Or.inl rfl)), hμ1, hw]
    unfold rd
    rw [qNewm_f]
    rfl
  have r3 : Rw μ3 (w + 1) 16 [] := a2.kp (g3 _ (by omega)) (g3 _ (by omega)) (by omega)
  refine ⟨(w, μ1), up μ3 w 1 0, ?_, rfl, c1, ?_, ⟨⟨Nat.le_refl _, by omega, by omega⟩, ⟨hb3.1, by rw [qJn_cg (up_ne (by omega))]; exact hb3.2.1, hb3.2.2⟩, (qJk_cg (up_ne (by omega))).trans k3, (qJl_cg (up_ne (by omega))).trans l3, ?_, ?_, r3.kp (up_ne (by omega)) (up_ne (by omega)) (Nat.le_of_eq (qJn_cg (up_ne (by omega))).symm)⟩, (((g1.tr g2).tr g3').tr (Gr.up ⟨Nat.le_refl _, hb3.2.2⟩)).wk (Nat.le_refl _) (by omega) (by omega)⟩
  · unfold qNo
    rw [if_pos ⟨Or.inr rfl, by omega, by omega⟩, if_neg (by decide), ← hμ1, hw]
  · unfold fJ4_init_da8c8 fJ5_init_d00df
    show (qCn μ1 w 11).bind _ = _
    have e1 : qPr μ2 w 11 (w + 1) = some μ3 := by
      unfold qPr
      rw [if_pos ⟨⟨hb2, Or.inr ⟨rfl, Or.inr k2⟩⟩, by omega⟩, hμ3]
    have e2 : qPj μ3 w 11 1 0 = some (up μ3 w 1 0) := by
      unfold qPj
      rw [if_pos ⟨⟨hb3, Or.inr ⟨rfl, Or.inl k3⟩⟩, Or.inl ⟨rfl, rfl⟩⟩]
    rw [c1, obs, a1, obs]
    show ((qPr μ2 w 11 (w + 1)).bind _).bind _ = _
    rw [e1, obs, e2, obs, obs]
  · rw [rd_at]
    rfl
  · rw [rd_ni (by decide)]
    exact z3
end BLD
