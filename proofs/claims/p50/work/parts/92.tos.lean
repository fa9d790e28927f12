/-! A TEXT OUT OF ITS BUILDER -/
section TOS
variable {μ : qMu} {n w b v cap s : Nat} {T S : List Int} {M d : Int}
/-- bytes of a row, as many as are laid -/
theorem x_range (hv : Rw μ v cap T) (hn : qJn μ < 750) (hs : qJs μ < 75000) (hl : T.length ≤ 100) : ∃ u μ', fJ7_copyOfRange_39247 v 0 (T.length : Int) μ = some (u, μ') ∧ u = 87 + qJn μ ∧ Rw μ' u T.length T ∧ Gr (87 + qJn μ) 1 302 μ μ' := by
  have hc := hv.2.2.2.1
  by_cases c : T.length = cap
  · obtain ⟨μ1, hμ1⟩ : ∃ μ1, μ1 = qNewm μ (μ v) 1 cap cap := ⟨_, rfl⟩
    have n1 : qJn μ1 = qJn μ + 1 := by
      rw [hμ1]
      exact qNewm_n (by omega)
    have e1 : qCo μ v = some (87 + qJn μ, μ1) := by
      have hall : (List.range (qJl μ v)).all (fun i => fits .byte (.int (μ v (i : Int)))) = true := by
        refine List.all_eq_true.mpr (fun i hi => ?_)
        have h1 := List.mem_range.mp hi
        rw [hv.2.2.1] at h1
        have h2 := hv.2.2.2.2.2 i h1
        unfold rd at h2
        exact fit_b (by omega)
      unfold qCo
      rw [if_pos ⟨⟨hv.1, hv.2.1⟩, by rw [hv.2.2.1]; omega, by omega, by omega, hall⟩, hv.2.2.1, hμ1]
    have e2 : qCb μ1 (87 + qJn μ) = some () := by
      unfold qCb
      rw [if_pos ⟨by omega, by rw [hμ1]; exact qNewm_k (by omega) (by omega)⟩]
    have er : ∀ j, rd μ1 (87 + qJn μ) j = rd μ v j := fun j => by
      rw [hμ1]
      unfold rd
      rw [qNewm_f]
    refine ⟨87 + qJn μ, μ1, ?_, rfl, ⟨by omega, by rw [hμ1]; exact qNewm_k (by omega) (by omega), by rw [hμ1, c]; exact qNewm_l (by omega) (by omega), ⟨Nat.le_refl _, by omega⟩, fun j hj => (er _).trans (hv.2.2.2.2.1 j hj), fun j hj => by rw [er]; exact hv.2.2.2.2.2 j (by omega)⟩, ?_⟩
    · unfold fJ7_copyOfRange_39247
      rw [if_pos c0w, hv.len, obs, c, if_pos rfl, e1, obs]
      dsimp only
      rw [e2, obs]
    · rw [hμ1]
      exact (Gr.new (Nat.le_refl _) (by omega) (by omega) (by omega)).wk (Nat.le_refl _) (Nat.le_refl _) (by omega)
  · obtain ⟨a1, a2, a3⟩ := nw_row (μ := μ) (M := (T.length : Int)) (by omega) (by omega) (by omega)
    obtain ⟨μ1, hμ1⟩ : ∃ μ1, μ1 = qNewm μ (fun _ => 0) 1 (T.length : Int).toNat (T.length : Int).toNat := ⟨_, rfl⟩
    rw [← hμ1] at a1 a2 a3
    have g1 : Gr (87 + qJn μ) 1 302 μ μ1 := by
      rw [hμ1]
      exact (Gr.new (Nat.le_refl _) (by omega) (by omega) (by omega)).wk (Nat.le_refl _) (Nat.le_refl _) (by omega)
    have hv1 : Rw μ1 v cap T := hv.kp (g1.2 _ (by have := hv.1; omega) (by have := hv.1; omega)) (g1.2 _ (by have := hv.1; omega) (by have := hv.1; omega)) g1.1.1
    have hne : v ≠ 87 + qJn μ := by have := hv.1; omega
    have a4 := cp_row (s := cap) (u := v) (sp := 0) (dp := 0) (l := (T.length : Int)) a2 hv1.src (by omega) hne (by omega) (by omega) (fun j hj => hv1.2.2.2.2.2 j hj)
    obtain ⟨μ2, hμ2⟩ : ∃ μ2, μ2 = qCpm μ1 (fun j : Nat => μ1 v (j : Int)) 0 (87 + qJn μ) 0 (T.length : Int) := ⟨_, rfl⟩
    rw [← hμ2] at a4
    have g2 : ∀ a, a ≠ 87 + qJn μ → μ2 a = μ1 a := fun a ha => by
      rw [hμ2]
      exact cpm_ne ha
    have g2' : Gr (87 + qJn μ) 0 0 μ1 μ2 := Gr.one g2 (Or.inl (by omega))
    have er : ∀ j : Nat, j < T.length → rd μ2 (87 + qJn μ) (j : Int) = rd μ1 v (j : Int) := fun j hj => by
      rw [hμ2, cpm_at, if_pos (by omega), show ((0 : Int) + ((j : Int) - 0)).toNat = j by omega]
      rfl
    refine ⟨87 + qJn μ, μ2, ?_, rfl, ⟨⟨by omega, by rw [qJn_cg (g2 2000000 (by omega))]; exact a2.1.2.1, by omega⟩, (qJk_cg (g2 _ (by omega))).trans a2.2.1, ?_, ⟨Nat.le_refl _, by omega⟩, fun j hj => ?_, fun j hj => ?_⟩, (g1.tr g2').wk (Nat.le_refl _) (Nat.le_refl _) (Nat.le_refl _)⟩
    · have em : mn ((cap : Int) - 0) (T.length : Int) = (T.length : Int) := by
        rw [mn_id (by omega) (by omega), if_pos (by omega)]
      have e1 : fJ7_checkLength_df160 0 (T.length : Int) μ = some () := by
        unfold fJ7_checkLength_df160
        rw [if_neg (by rw [wr_id (by omega) (by omega)]; show ¬ (T.length : Int) < 0; omega)]
      unfold fJ7_copyOfRange_39247
      rw [if_pos c0w, hv.len, obs, if_neg (by rw [wr_id (by omega) (by omega), wr_id (by omega) (by omega)]; omega)]
      unfold fJ7_copyOfRangeByte_39247
      rw [e1, obs, Int.sub_zero, a1, obs]
      dsimp only
      rw [hv1.len, obs, em, a4, obs, obs]
    · rw [qJl_cg (g2 _ (by omega)), a2.2.2.1]
      omega
    · rw [er j hj]
      exact hv1.2.2.2.2.1 j hj
    · rw [er j hj]
      exact hv1.2.2.2.2.2 j (by omega)
/-- the text -/
theorem x_tos (h : Bl μ w b v cap T) (hw : w ≤ 87 + qJn μ) (hn : qJn μ < 700) (hs : qJs μ < 70000) (hl : T.length ≤ 100) (hT : ∀ j : Nat, j < T.length → 0 ≤ T.getD j 0 ∧ T.getD j 0 ≤ 127) : ∃ s μ', fJ4_toString_0e30d b μ = some (s, μ') ∧ St μ' (87 + qJn μ') s T ∧ Gr w 2 306 μ μ' := by
  obtain ⟨μ1, hμ1⟩ : ∃ μ1, μ1 = qNewm μ (fun _ => 0) 4 0 4 := ⟨_, rfl⟩
  obtain ⟨s, hs'⟩ : ∃ s, s = 87 + qJn μ := ⟨_, rfl⟩
  have n1 : qJn μ1 = qJn μ + 1 := by
    rw [hμ1]
    exact qNewm_n (by omega)
  have s1 : qJs μ1 = qJs μ + 4 := by
    rw [hμ1]
    exact qNewm_s (by omega) (by omega) (by omega)
  have k1 : qJk μ1 s = 4 := by
    rw [hμ1, hs']
    exact qNewm_k (by omega) (by omega)
  have g1 : Gr w 1 4 μ μ1 := by
    rw [hμ1]
    exact Gr.new hw (by omega) (by omega) (by omega)
  have g1o : ∀ a, a < s ∨ (1500 ≤ a ∧ a < 2000000 + s) → a ≠ 2000000 → μ1 a = μ a := fun a q1 q2 => by
    rw [hμ1]
    exact qNewm_o (by omega) (by omega) q2
  have hb1 : Bl μ1 w b v cap T := h.kp (g1o _ (by have := h.2.1; omega) (by have := h.2.1; omega)) (g1o _ (by have := h.2.1; omega) (by have := h.2.1; omega)) (g1o _ (by have := h.2.2.2.2.2.2.1; omega) (by have := h.2.2.2.2.2.2.1; omega)) (g1o _ (by have := h.2.2.2.2.2.2.1; omega) (by have := h.2.2.2.2.2.2.1; omega)) g1.1.1
  obtain ⟨b1, b2, b3, b4, b5⟩ := hb1.is
  have hbs : b < s ∧ v < s := by have := h.2.1; have := h.2.2.2.2.2.2.1; omega
  have cs1 : 87 ≤ s ∧ s < 87 + qJn μ1 ∧ s < 1500 := by omega
  have e0 : qNo μ 10 = some (s, μ1) := by
    unfold qNo
    rw [if_pos ⟨Or.inl rfl, by omega, by omega⟩, if_pos rfl, ← hμ1, hs']
  have e1 : qCn μ1 s 10 = some () := by
    unfold qCn
    rw [if_pos ⟨cs1, Or.inl ⟨rfl, Or.inr k1⟩⟩]
  obtain ⟨μ2, hμ2⟩ : ∃ μ2, μ2 = up μ1 s 1 0 := ⟨_, rfl⟩
  have e2 : qPj μ1 s 10 1 0 = some μ2 := by
    unfold qPj
    rw [if_pos ⟨⟨cs1, Or.inl ⟨rfl, Or.inr k1⟩⟩, Or.inl ⟨rfl, rfl⟩⟩, hμ2]
  have g2 : ∀ a, a ≠ s → μ2 a = μ1 a := fun a ha => by
    rw [hμ2]
    exact up_ne ha
  have g2' : Gr w 0 0 μ1 μ2 := Gr.one g2 (Or.inl ⟨by omega, cs1.2.2⟩)
  have n2 : qJn μ2 = qJn μ1 := qJn_cg (g2 _ (by omega))
  have s2 : qJs μ2 = qJs μ1 := qJs_cg (g2 _ (by omega))
  have hv2 : Rw μ2 v cap T := hb1.2.2.2.2.2.2.kp (g2 _ (by omega)) (g2 _ (by omega)) (by omega)
  obtain ⟨u, μ3, a1, a2, a3, a4⟩ := x_range hv2 (by omega) (by omega) hl
  have a5 := a4.2
  have k3 : qJk μ3 s = 4 := (qJk_cg (a5 _ (by omega) (by omega))).trans ((qJk_cg (g2 _ (by omega))).trans k1)
  have n3 := a4.1
  have cs3 : 87 ≤ s ∧ s < 87 + qJn μ3 ∧ s < 1500 := by omega
  obtain ⟨μ4, hμ4⟩ : ∃ μ4, μ4 = qSv μ3 s u := ⟨_, rfl⟩
  have e4 : qPr μ3 s 10 u = some μ4 := by
    unfold qPr
    rw [if_pos ⟨⟨cs3, Or.inl ⟨rfl, Or.inr k3⟩⟩, by omega⟩, hμ4]
  have g4 : ∀ a, a ≠ 2000000 + s → μ4 a = μ3 a := fun a ha => by
    rw [hμ4]
    unfold qSv
    rw [if_neg ha]
  have g4' : Gr w 0 0 μ3 μ4 := Gr.one g4 (Or.inr (by omega))
  have n4 : qJn μ4 = qJn μ3 := qJn_cg (g4 _ (by omega))
  have l4 : qJl μ4 s = u := by
    rw [hμ4]
    unfold qJl qSv
    rw [if_pos rfl, if_neg (by decide), if_pos rfl]
    exact qofN (by omega)
  refine ⟨s, μ4, ?_, ⟨⟨hl, hT⟩, Or.inr ⟨⟨cs3.1, by omega, Nat.le_refl _, by omega⟩, ?_, ?_, by have := a3.1; omega, ?_⟩⟩, ((g1.tr g2').tr (a4.wk (by omega) (Nat.le_refl _) (Nat.le_refl _))).tr g4' |>.wk (Nat.le_refl _) (by omega) (by omega)⟩
  · have i1 : fJ5_isLatin1_aae02 b μ1 = some 1 := by
      unfold fJ5_isLatin1_aae02
      rw [b3, obs, if_pos c0w]
    have i2 : fJ5_getValue_6d5f1 b μ1 = some v := by
      unfold fJ5_getValue_6d5f1
      rw [b5, obs]
    have i3 : fJ4_length_8abf5 b μ1 = some (T.length : Int) := by
      unfold fJ4_length_8abf5 fJ5_length_8abf5
      rw [b1, obs, b4, obs, obs]
    have i4 : fJ0_init_db425 s b μ1 = some μ4 := by
      unfold fJ0_init_db425
      rw [b1, obs, i2, obs, b2, obs, i3, obs, obs, i1, obs, if_neg c1w, e2, obs, a1, obs]
      dsimp only
      rw [e4, obs]
    unfold fJ4_toString_0e30d
    rw [e0, obs]
    dsimp only
    rw [e1, obs]
    unfold fJ0_init_81219
    rw [e1, obs, i4, obs, obs]
  · rw [hμ4]
    unfold qJk qSv
    rw [if_pos rfl, if_pos rfl]
    have e5 : qJk μ3 s = 4 := k3
    rw [if_pos (Or.inr e5)]
    rfl
  · rw [rd_cg (g4 s (by omega)), rd_cg (a5 s (by omega) (by omega)), hμ2, rd_at]
    rfl
  · rw [l4]
    exact a3.kp (g4 _ (by omega)) (g4 _ (by omega)) (by omega)
end TOS
