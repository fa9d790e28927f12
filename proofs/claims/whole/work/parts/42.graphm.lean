/-! the same of the reference -/
def alk (c t : Int → Int → Int) : Prop := ∀ u, 0 ≤ u → u < 8 → dgs c u = dgs t u
theorem rs_16 : rs (fun _ => (16 : Int)) 0 8 = 128 := rfl
theorem Vd.dg {N : Int} {c : Int → Int → Int} (h : Vd N c) (u : Int) : 0 ≤ dgs c u ∧ dgs c u ≤ 144 := by
  have h1 := h.r u u
  have h2 : 0 ≤ rs (fun v => c u v) 0 8 := rs_nn (fun k _ _ => h.2.1 u k)
  have h3 : rs (fun v => c u v) 0 8 ≤ rs (fun _ => (16 : Int)) 0 8 := rs_le (fun k _ _ => (h.r u k).2)
  rw [rs_16] at h3
  unfold dgs
  omega
theorem Vd.dw {N : Int} {c : Int → Int → Int} (h : Vd N c) (u : Int) : wr (dgs c u) = dgs c u := by
  have := h.dg u
  exact wr_id (by omega) (by omega)
theorem Vd.dz {N : Int} {c : Int → Int → Int} (h : Vd N c) {u : Int} (hu : N ≤ u) : dgs c u = 0 := by
  unfold dgs
  rw [h.z1 (Or.inr hu), rs_zero (fun k _ _ => h.z1 (Or.inr hu))]
  rfl
section GXM
variable {μ : qMu} {n : Nat} {T N : Int} {c t : Int → Int → Int}
theorem m_many (h : GM μ T c) (hT : T = 2 ∨ T = 66) {u v : Int} (hu : 0 ≤ u ∧ u < 8) (hv : 0 ≤ v ∧ v < 8) : fX10_many T u v μ = some (c u v) := by
  have := h u v hu hv
  simp (disch := omega) only [fX10_many, fX10_at, qLd_in, Option.bind_some, this]
theorem m_edgesOf (hn : 5000 ≤ n) (h : GM μ T c) (hT : T = 2 ∨ T = 66) : fX10_edgesOf n T μ = some (Ed c) := by
  have hi : ∀ u, 0 ≤ u → u < 8 → ∀ z k, u ≤ k → k < 8 → bX10_edgesOf_13 n T u z k μ = some (.inl (z + c u k, k + 1)) := by
    intro u h3 h4 z k h1 h2
    simp (disch := omega) only [bX10_edgesOf_13, wr_id, if_pos, m_many h hT, Option.bind_some]
  have hie : ∀ u z, bX10_edgesOf_13 n T u z 8 μ = some (.inr z) := by
    intro u z
    simp (disch := omega) only [bX10_edgesOf_13, wr_id, if_neg]
  have hb : ∀ z k, 0 ≤ k → k < 8 → bX10_edgesOf_4 n T z k μ = some (.inl (z + rs (fun v => c k v) k 8, k + 1)) := by
    intro z k h1 h2
    simp (disch := omega) only [bX10_edgesOf_4, wr_id, if_pos]
    rw [lp_rs2 k (hi k h1 h2) (hie k) (by omega) (by omega) (by omega)]
    rfl
  have he : ∀ z, bX10_edgesOf_4 n T z 8 μ = some (.inr z) := by
    intro z
    simp (disch := omega) only [bX10_edgesOf_4, wr_id, if_neg]
  simp only [fX10_edgesOf]
  rw [lp_rs2 0 hb he (by omega) (by omega) (by omega), Int.zero_add]
  rfl
theorem m_degreeOf (hn : 5000 ≤ n) (h : GM μ T c) (hT : T = 2 ∨ T = 66) {u : Int} (hu : 0 ≤ u ∧ u < 8) : fX10_degreeOf n T u μ = some (dgs c u) := by
  have hb : ∀ z k, 0 ≤ k → k < 8 → bX10_degreeOf_11 n T u z k μ = some (.inl (z + c u k, k + 1)) := by
    intro z k h1 h2
    simp (disch := omega) only [bX10_degreeOf_11, wr_id, if_pos, m_many h hT, Option.bind_some]
  have he : ∀ z, bX10_degreeOf_11 n T u z 8 μ = some (.inr z) := by
    intro z
    simp (disch := omega) only [bX10_degreeOf_11, wr_id, if_neg]
  simp only [fX10_degreeOf, m_many h hT hu hu, Option.bind_some]
  rw [lp_rs2 0 hb he (by omega) (by omega) (by omega)]
  rfl
theorem m_loopsNow (hn : 5000 ≤ n) (h : GM μ 2 c) : fX10_loopsNow n μ = some (lpc c) := by
  have hb : ∀ z k, 0 ≤ k → k < 8 → bX10_loopsNow_4 n z k μ = some (.inl (z + c k k, k + 1)) := by
    intro z k h1 h2
    simp (disch := omega) only [bX10_loopsNow_4, wr_id, if_pos, m_many h (Or.inl rfl), Option.bind_some]
  have he : ∀ z, bX10_loopsNow_4 n z 8 μ = some (.inr z) := by
    intro z
    simp (disch := omega) only [bX10_loopsNow_4, wr_id, if_neg]
  simp only [fX10_loopsNow]
  rw [lp_rs2 (g := fun k => c k k) 0 hb he (by omega) (by omega) (by omega), Int.zero_add]
  rfl
theorem m_defectsNow (hn : 5000 ≤ n) (h : GM μ 2 c) (hV : Vd N c) : fX10_defectsNow n μ = some (dfc c) := by
  have hi : ∀ u, 0 ≤ u → u < 8 → ∀ z k, u + 1 ≤ k → k < 8 → bX10_defectsNow_17 n u z k μ = some (.inl (z + mz (c u k - 1), k + 1)) := by
    intro u h3 h4 z k h1 h2
    have hr := hV.r u k
    rw [← mx_mz (by omega)]
    simp (disch := omega) only [bX10_defectsNow_17, wr_id, if_pos, m_many h (Or.inl rfl), Option.bind_some]
  have hie : ∀ u z, bX10_defectsNow_17 n u z 8 μ = some (.inr z) := by
    intro u z
    simp (disch := omega) only [bX10_defectsNow_17, wr_id, if_neg]
  have hb : ∀ z k, 0 ≤ k → k < 8 → bX10_defectsNow_7 n z k μ = some (.inl (z + rs (fun v => mz (c k v - 1)) (k + 1) 8, k + 1)) := by
    intro z k h1 h2
    simp (disch := omega) only [bX10_defectsNow_7, wr_id, if_pos]
    rw [lp_rs2 (k + 1) (hi k h1 h2) (hie k) (by omega) (by omega) (by omega)]
    rfl
  have he : ∀ z, bX10_defectsNow_7 n z 8 μ = some (.inr z) := by
    intro z
    simp (disch := omega) only [bX10_defectsNow_7, wr_id, if_neg]
  simp only [fX10_defectsNow, m_loopsNow hn h, Option.bind_some]
  rw [lp_rs2 0 hb he (by omega) (by omega) (by omega)]
  rfl
theorem m_areJoined (h : GM μ 2 c) (hV : Vd N c) {u v : Int} (hu : 0 ≤ u ∧ u < 8) (hv : 0 ≤ v ∧ v < 8) : fX10_areJoined u v μ = some (if u ≠ v ∧ 0 < c u v then 1 else 0) := by
  simp (disch := omega) only [fX10_areJoined, wr_id, m_many h (Or.inl rfl), Option.bind_some, hV.w]
  by_cases h1 : u = v
  · rw [if_pos h1, if_neg (fun q => q.1 h1)]
  · rw [if_neg h1]
    by_cases h2 : 0 < c u v
    · rw [if_pos h2, if_pos ⟨h1, h2⟩]
    · rw [if_neg h2, if_neg (fun q => h2 q.2)]
theorem m_neighbours (hn : 5000 ≤ n) (h : GM μ 2 c) (hV : Vd N c) {u : Int} (hu : 0 ≤ u ∧ u < 8) : lp (fun x : Int × Int => bX10_neighbours_18 n u x.1 x.2 μ) n (0, 0) = some (nbs c u) := by
  have hb : ∀ z k, 0 ≤ k → k < 8 → bX10_neighbours_18 n u z k μ = some (.inl (z + (if k ≠ u ∧ 0 < c u k then 1 else 0), k + 1)) := by
    intro z k h1 h2
    simp (disch := omega) only [bX10_neighbours_18, wr_id, if_pos, m_areJoined h hV, Option.bind_some]
    by_cases h3 : u = k
    · subst h3
      simp [wr_id]
    · have h5 : ¬ k = u := fun q => h3 q.symm
      by_cases h4 : 0 < c u k <;> simp [h3, h4, h5]
  have he : ∀ z, bX10_neighbours_18 n u z 8 μ = some (.inr z) := by
    intro z
    simp (disch := omega) only [bX10_neighbours_18, wr_id, if_neg]
  rw [lp_rs2 0 hb he (by omega) (by omega) (by omega), Int.zero_add]
  rfl
theorem m_triangles (hn : 5000 ≤ n) (h : GM μ 2 c) (hV : Vd N c) : lp (fun x : Int × Int => bX10_triangles_9 n x.1 x.2 μ) n (0, 0) = some (trs c) := by
  have hi0 : ∀ u v, 0 ≤ u → u < v → v < 8 → ∀ z k, v + 1 ≤ k → k < 8 → bX10_triangles_30 n u v z k μ = some (.inl (z + (if 0 < c u v ∧ 0 < c v k ∧ 0 < c u k then 1 else 0), k + 1)) := by
    intro u v h3 h4 h5 z k h1 h2
    simp (disch := omega) only [bX10_triangles_30, wr_id, if_pos, m_areJoined h hV, Option.bind_some]
    have q4 : u ≠ v := by omega
    have q5 : v ≠ k := by omega
    have q6 : u ≠ k := by omega
    by_cases q1 : 0 < c u v <;> by_cases q2 : 0 < c v k <;> by_cases q3 : 0 < c u k <;> simp [q1, q2, q3, q4, q5, q6]
  have hi0e : ∀ u v z, bX10_triangles_30 n u v z 8 μ = some (.inr z) := by
    intro u v z
    simp (disch := omega) only [bX10_triangles_30, wr_id, if_neg]
  have hi : ∀ u, 0 ≤ u → u < 8 → ∀ z k, u + 1 ≤ k → k < 8 → bX10_triangles_19 n u z k μ = some (.inl (z + rs (fun w => if 0 < c u k ∧ 0 < c k w ∧ 0 < c u w then 1 else 0) (k + 1) 8, k + 1)) := by
    intro u h3 h4 z k h1 h2
    simp (disch := omega) only [bX10_triangles_19, wr_id, if_pos]
    rw [lp_rs2 (k + 1) (hi0 u k (by omega) (by omega) (by omega)) (hi0e u k) (by omega) (by omega) (by omega)]
    rfl
  have hie : ∀ u z, bX10_triangles_19 n u z 8 μ = some (.inr z) := by
    intro u z
    simp (disch := omega) only [bX10_triangles_19, wr_id, if_neg]
  have hb : ∀ z k, 0 ≤ k → k < 8 → bX10_triangles_9 n z k μ = some (.inl (z + rs (fun v => rs (fun w => if 0 < c k v ∧ 0 < c v w ∧ 0 < c k w then 1 else 0) (v + 1) 8) (k + 1) 8, k + 1)) := by
    intro z k h1 h2
    simp (disch := omega) only [bX10_triangles_9, wr_id, if_pos]
    rw [lp_rs2 (k + 1) (hi k (by omega) (by omega)) (hie k) (by omega) (by omega) (by omega)]
    rfl
  have he : ∀ z, bX10_triangles_9 n z 8 μ = some (.inr z) := by
    intro z
    simp (disch := omega) only [bX10_triangles_9, wr_id, if_neg]
  rw [lp_rs2 0 hb he (by omega) (by omega) (by omega), Int.zero_add]
  rfl
theorem m_differenceNow (hn : 5000 ≤ n) (h : GM μ 2 c) (hV : Vd N c) (h' : GM μ 66 t) (hV' : Vd N t) : fX10_differenceNow n μ = some (sps c t) := by
  have hi : ∀ u, 0 ≤ u → u < 8 → ∀ z k, u ≤ k → k < 8 → bX10_differenceNow_12 n u z k μ = some (.inl (z + mz (c u k - t u k), k + 1)) := by
    intro u h3 h4 z k h1 h2
    have hr := hV.r u k
    have hr' := hV'.r u k
    rw [← mx_mz (by omega)]
    simp (disch := omega) only [bX10_differenceNow_12, wr_id, if_pos, m_many h (Or.inl rfl), m_many h' (Or.inr rfl), Option.bind_some]
  have hie : ∀ u z, bX10_differenceNow_12 n u z 8 μ = some (.inr z) := by
    intro u z
    simp (disch := omega) only [bX10_differenceNow_12, wr_id, if_neg]
  have hb : ∀ z k, 0 ≤ k → k < 8 → bX10_differenceNow_4 n z k μ = some (.inl (z + rs (fun v => mz (c k v - t k v)) k 8, k + 1)) := by
    intro z k h1 h2
    simp (disch := omega) only [bX10_differenceNow_4, wr_id, if_pos]
    rw [lp_rs2 k (hi k h1 h2) (hie k) (by omega) (by omega) (by omega)]
    rfl
  have he : ∀ z, bX10_differenceNow_4 n z 8 μ = some (.inr z) := by
    intro z
    simp (disch := omega) only [bX10_differenceNow_4, wr_id, if_neg]
  simp only [fX10_differenceNow]
  rw [lp_rs2 0 hb he (by omega) (by omega) (by omega), Int.zero_add]
  rfl
theorem m_areAlike (hn : 5000 ≤ n) (h : GM μ 2 c) (hV : Vd N c) (h' : GM μ 66 t) (hV' : Vd N t) : ∃ b, fX10_areAlike n μ = some b ∧ (b = 1 ∧ alk c t ∨ b = 0 ∧ ¬ alk c t) := by
  obtain ⟨b, h1, h2⟩ := lp_inv (f := fun x : Int × Int => bX10_areAlike_4 n x.1 x.2 μ) (fun k x => (x.2 = 8 - (k : Int) ∧ 0 ≤ x.2) ∧ (x.1 = 1 ∧ (∀ u, 0 ≤ u → u < x.2 → dgs c u = dgs t u) ∨ x.1 = 0 ∧ ¬ alk c t)) (fun b => b = 1 ∧ alk c t ∨ b = 0 ∧ ¬ alk c t) (by
    rintro k ⟨z, i⟩ ⟨⟨h1, h2⟩, h3⟩
    dsimp only at h1 h2 h3
    by_cases hi : i < 8
    · right
      rcases h3 with ⟨rfl, h3⟩ | ⟨rfl, h3⟩
      · by_cases h4 : dgs c i = dgs t i
        · refine ⟨k - 1, (1, i + 1), ?_, by omega, ⟨by dsimp only; omega, by dsimp only; omega⟩, Or.inl ⟨rfl, fun u q1 q2 => ?_⟩⟩
          · simp (disch := omega) only [bX10_areAlike_4, wr_id, if_pos, if_neg, m_degreeOf hn h (Or.inl rfl), m_degreeOf hn h' (Or.inr rfl), Option.bind_some, hV.dw, hV'.dw, h4]
            rfl
          · dsimp only at q2
            by_cases q3 : u = i
            · rw [q3]; exact h4
            · exact h3 u q1 (by omega)
        · refine ⟨k - 1, (0, i + 1), ?_, by omega, ⟨by dsimp only; omega, by dsimp only; omega⟩, Or.inr ⟨rfl, fun q => h4 (q i h2 hi)⟩⟩
          simp (disch := omega) only [bX10_areAlike_4, wr_id, if_pos, if_neg, m_degreeOf hn h (Or.inl rfl), m_degreeOf hn h' (Or.inr rfl), Option.bind_some, hV.dw, hV'.dw]
      · refine ⟨k - 1, (0, i + 1), ?_, by omega, ⟨by dsimp only; omega, by dsimp only; omega⟩, Or.inr ⟨rfl, h3⟩⟩
        simp (disch := omega) only [bX10_areAlike_4, wr_id, if_pos, Option.bind_some]
        rfl
    · left
      have : i = 8 := by omega
      subst this
      refine ⟨z, ?_, ?_⟩
      · simp (disch := omega) only [bX10_areAlike_4, wr_id, if_neg]
      · exact h3.imp (fun q => ⟨q.1, q.2⟩) id) n 8 (1, 0) ⟨⟨rfl, Int.le_refl _⟩, Or.inl ⟨rfl, fun u q1 q2 => by dsimp only at q2; omega⟩⟩ (by omega)
  refine ⟨b, ?_, h2⟩
  simp only [fX10_areAlike, h1, Option.bind_some]
  rcases h2 with ⟨rfl, -⟩ | ⟨rfl, -⟩ <;> rfl
theorem x_hasDegreesOf {g g2 : Nat} (hn : 5000 ≤ n) (h : GX μ g N c) (hV : Vd N c) (h' : GX μ g2 N t) (hV' : Vd N t) : ∃ b, fX1_hasDegreesOf n g g2 μ = some b ∧ (b = 1 ∧ alk c t ∨ b = 0 ∧ ¬ alk c t) := by
  have hN := hV.N
  obtain ⟨b, h1, h2⟩ := lp_inv (f := fun x : Int => bX1_hasDegreesOf_2 n g g2 x μ) (fun k x => (x = N - (k : Int) ∧ 0 ≤ x) ∧ (∀ u, 0 ≤ u → u < x → dgs c u = dgs t u)) (fun b => b = .inl () ∧ alk c t ∨ b = .inr 0 ∧ ¬ alk c t) (by
    rintro k i ⟨⟨h1, h2⟩, h3⟩
    by_cases hi : i < N
    · by_cases h4 : dgs c i = dgs t i
      · right
        refine ⟨k - 1, i + 1, ?_, by omega, ⟨by omega, by omega⟩, fun u q1 q2 => ?_⟩
        · simp (disch := omega) only [bX1_hasDegreesOf_2, h.1, wr_id, if_pos, x_degreeOf hn h hV, x_degreeOf hn h' hV', Option.bind_some, hV.dw, hV'.dw, h4]
          rfl
        · by_cases q3 : u = i
          · rw [q3]; exact h4
          · exact h3 u q1 (by omega)
      · left
        refine ⟨.inr 0, ?_, Or.inr ⟨rfl, fun q => h4 (q i h2 (by omega))⟩⟩
        simp (disch := omega) only [bX1_hasDegreesOf_2, h.1, wr_id, if_pos, if_neg, x_degreeOf hn h hV, x_degreeOf hn h' hV', Option.bind_some, hV.dw, hV'.dw]
    · left
      have : i = N := by omega
      subst this
      refine ⟨.inl (), ?_, Or.inl ⟨rfl, fun u q1 q2 => ?_⟩⟩
      · simp (disch := omega) only [bX1_hasDegreesOf_2, h.1, wr_id, if_neg]
      · by_cases q3 : u < i
        · exact h3 u q1 q3
        · rw [hV.dz (by omega), hV'.dz (by omega)]) n N.toNat 0 ⟨⟨by omega, Int.le_refl _⟩, fun u q1 q2 => by omega⟩ (by omega)
  rcases h2 with ⟨rfl, h2⟩ | ⟨rfl, h2⟩
  · exact ⟨1, by simp only [fX1_hasDegreesOf, h1, Option.bind_some]; rfl, Or.inl ⟨rfl, h2⟩⟩
  · exact ⟨0, by simp only [fX1_hasDegreesOf, h1, Option.bind_some]; rfl, Or.inr ⟨rfl, h2⟩⟩
end GXM
