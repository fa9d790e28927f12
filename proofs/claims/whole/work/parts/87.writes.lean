/-! WRITING a whole graph, in both -/
theorem wri_z {c : Int → Int → Int} {u : Int} : ∀ (j : Nat) (v : Int) (w : qWs), (∀ x, v ≤ x → ¬ 0 < c u x) → wri c u j v w = w
  | 0, _, _, _ => rfl
  | j + 1, v, w, h => by
    have e1 : wri c u (j + 1) v w = wri c u j (v + 1) (if 0 < c u v then wre w u v (c u v) else w) := rfl
    rw [e1, if_neg (h v (Int.le_refl _))]
    exact wri_z j (v + 1) w (fun x hx => h x (by omega))
theorem wro_z {c : Int → Int → Int} : ∀ (j : Nat) (u : Int) (w : qWs), (∀ x y, u ≤ x → ¬ 0 < c x y) → wro c j u w = w
  | 0, _, _, _ => rfl
  | j + 1, u, w, h => by
    have e1 : wro c (j + 1) u w = wro c j (u + 1) (wri c u (8 - u).toNat u w) := rfl
    rw [e1, wri_z _ _ _ (fun x _ => h u x (Int.le_refl _))]
    exact wro_z j (u + 1) w (fun x y hx => h x y (by omega))
theorem wro_st {c : Int → Int → Int} {z : Int} {w : qWs} (h : z < 8) : wro c (8 - z).toNat z w = wro c (8 - (z + 1)).toNat (z + 1) (wri c z (8 - z).toNat z w) := by
  have e1 : ∀ j : Nat, j = (8 - (z + 1)).toNat + 1 → wro c j z w = wro c (8 - (z + 1)).toNat (z + 1) (wri c z (8 - z).toNat z w) := by
    intro j hj
    subst hj
    rfl
  exact e1 _ (by omega)
def wrt (c : Int → Int → Int) : qWs := wro c 8 0 (0, fun _ => 0)
section WRS
variable {μ : qMu} {n g : Nat} {w : qWs} {N m : Int} {c t : Int → Int → Int}
theorem x_row {u : Int} (hn : 5000 ≤ n) (h : XW μ w) (hw : WR w) (hG : GX μ g N c) (hV : Vd N c) (hg : g ≠ 76 ∧ g ≠ 77 ∧ g + 1 ≠ 76 ∧ g + 1 ≠ 77) (hu : 0 ≤ u ∧ u < N) (hl : w.1 + 4 * rs (fun v => c u v) u 8 ≤ 64) : ∃ μ', lp (fun x : Int × qMu => bX3_print_17 n g u x.1 x.2) n (u, μ) = some μ' ∧ XW μ' (wri c u (8 - u).toNat u w) ∧ WR (wri c u (8 - u).toNat u w) ∧ (wri c u (8 - u).toNat u w).1 ≤ w.1 + 4 * rs (fun v => c u v) u 8 ∧ Fr [76, 77] μ μ' := by
  have hN := hV.N
  obtain ⟨y, r1, r2, r3, r4, r5⟩ := lp_inv (f := fun x : Int × qMu => bX3_print_17 n g u x.1 x.2) (fun k x => ∃ w', (x.1 = N - (k : Int) ∧ u ≤ x.1) ∧ XW x.2 w' ∧ WR w' ∧ w'.1 + 4 * rs (fun v => c u v) x.1 8 ≤ w.1 + 4 * rs (fun v => c u v) u 8 ∧ wri c u (8 - x.1).toNat x.1 w' = wri c u (8 - u).toNat u w ∧ Fr [76, 77] μ x.2) (fun y => XW y (wri c u (8 - u).toNat u w) ∧ WR (wri c u (8 - u).toNat u w) ∧ (wri c u (8 - u).toNat u w).1 ≤ w.1 + 4 * rs (fun v => c u v) u 8 ∧ Fr [76, 77] μ y) (by
    rintro k ⟨z, ξ⟩ ⟨w', ⟨h4, h5⟩, h6, h7, h8, h9, h10⟩
    dsimp only at h4 h5 h6 h8 h9 h10
    have hGξ : GX ξ g N c := hG.kp (h10 g (by simp; omega)) (h10 (g + 1) (by simp; omega))
    have ev : fX1_vertexCount g ξ = some N := congrArg some hGξ.1
    by_cases hz : z < N
    · right
      have ez : wri c u (8 - z).toNat z w' = wri c u (8 - (z + 1)).toNat (z + 1) (if 0 < c u z then wre w' u z (c u z) else w') := by
        rw [show (8 - z).toNat = (8 - (z + 1)).toNat + 1 by omega]
        rfl
      have eb := x_between hGξ (u := u) (v := z) (by omega) (by omega)
      have er : rs (fun v => c u v) z 8 = c u z + rs (fun v => c u v) (z + 1) 8 := rs_step (by omega)
      have hr := hV.r u z
      have hr2 : 0 ≤ rs (fun v => c u v) (z + 1) 8 := rs_nn (fun k _ _ => (hV.r u k).1)
      rw [ez] at h9
      by_cases c1 : 0 < c u z
      · rw [if_pos c1] at h9
        obtain ⟨ξ1, a1, a2, a3, a4, a5⟩ := x_edges h6 h7 (u := u) (v := z) (k := c u z) (by omega) (by omega) (by omega) (by omega)
        refine ⟨k - 1, (z + 1, ξ1), ?_, by omega, wre w' u z (c u z), ⟨by dsimp only; omega, by dsimp only; omega⟩, a2, a4, by dsimp only; omega, h9, h10.tr a3⟩
        simp (disch := omega) only [ite_true, bX3_print_17, ev, eb, a1, wr_id, if_pos, Option.bind_some]
      · rw [if_neg c1] at h9
        refine ⟨k - 1, (z + 1, ξ), ?_, by omega, w', ⟨by dsimp only; omega, by dsimp only; omega⟩, h6, h7, by dsimp only; omega, h9, h10⟩
        simp (disch := omega) only [ite_true, bX3_print_17, ev, eb, wr_id, if_pos, if_neg, Option.bind_some]
    · left
      have hzN : z = N := by omega
      subst hzN
      have e0 : wri c u (8 - z).toNat z w' = w' := wri_z _ _ _ (fun x hx => by rw [hV.z2 (Or.inr hx)]; omega)
      rw [e0] at h9
      have hr2 : 0 ≤ rs (fun v => c u v) z 8 := rs_nn (fun k _ _ => (hV.r u k).1)
      rw [← h9]
      refine ⟨ξ, ?_, h6, h7, by omega, h10⟩
      simp (disch := omega) only [ite_true, bX3_print_17, ev, wr_id, if_neg, Option.bind_some]) n (N - u).toNat (u, μ) ⟨w, ⟨by dsimp only; omega, Int.le_refl _⟩, h, hw, Int.le_refl _, rfl, Fr.rf _ _⟩ (by omega)
  exact ⟨y, r1, r2, r3, r4, r5⟩
theorem x_print (hn : 5000 ≤ n) (hG : GX μ g N c) (hV : Vd N c) (hg : g ≠ 76 ∧ g ≠ 77 ∧ g + 1 ≠ 76 ∧ g + 1 ≠ 77) : ∃ μ', fX3_print n g μ = some μ' ∧ XW μ' (wrt c) ∧ WR (wrt c) ∧ (wrt c).1 ≤ 64 ∧ Fr [76, 77] μ μ' := by
  have hN := hV.N
  have f0 : Fr [76, 77] μ (up μ 76 1 0) := Fr.up (by simp)
  have hE : rs (fun u => rs (fun v => c u v) u 8) 0 8 ≤ 16 := hV.2.2.2.2
  obtain ⟨y, r1, r2, r3, r4, r5⟩ := lp_inv (f := fun x : Int × qMu => bX3_print_7 n g x.1 x.2) (fun k x => ∃ w', (x.1 = N - (k : Int) ∧ 0 ≤ x.1) ∧ XW x.2 w' ∧ WR w' ∧ w'.1 + 4 * rs (fun u => rs (fun v => c u v) u 8) x.1 8 ≤ 64 ∧ wro c (8 - x.1).toNat x.1 w' = wrt c ∧ Fr [76, 77] μ x.2) (fun y => XW y (wrt c) ∧ WR (wrt c) ∧ (wrt c).1 ≤ 64 ∧ Fr [76, 77] μ y) (by
    rintro k ⟨z, ξ⟩ ⟨w', ⟨h4, h5⟩, h6, h7, h8, h9, h10⟩
    dsimp only at h4 h5 h6 h8 h9 h10
    have hGξ : GX ξ g N c := hG.kp (h10 g (by simp; omega)) (h10 (g + 1) (by simp; omega))
    have ev : fX1_vertexCount g ξ = some N := congrArg some hGξ.1
    by_cases hz : z < N
    · right
      have ez := wro_st (c := c) (z := z) (w := w') (by omega)
      have er : rs (fun u => rs (fun v => c u v) u 8) z 8 = rs (fun v => c z v) z 8 + rs (fun u => rs (fun v => c u v) u 8) (z + 1) 8 := rs_step (by omega)
      have hr2 : 0 ≤ rs (fun u => rs (fun v => c u v) u 8) (z + 1) 8 := rs_nn (fun k _ _ => rs_nn (fun j _ _ => (hV.r k j).1))
      rw [ez] at h9
      obtain ⟨ξ1, a1, a2, a3, a4, a5⟩ := x_row (u := z) hn h6 h7 hGξ hV hg (by omega) (by omega)
      refine ⟨k - 1, (z + 1, ξ1), ?_, by omega, _, ⟨by dsimp only; omega, by dsimp only; omega⟩, a2, a3, by dsimp only; omega, h9, h10.tr a5⟩
      simp (disch := omega) only [ite_true, bX3_print_7, ev, a1, wr_id, if_pos, Option.bind_some]
    · left
      have hzN : z = N := by omega
      subst hzN
      have e0 : wro c (8 - z).toNat z w' = w' := wro_z _ _ _ (fun x y hx => by rw [hV.z1 (Or.inr hx)]; omega)
      rw [e0] at h9
      have hr2 : 0 ≤ rs (fun u => rs (fun v => c u v) u 8) z 8 := rs_nn (fun k _ _ => rs_nn (fun j _ _ => (hV.r k j).1))
      rw [← h9]
      refine ⟨ξ, ?_, h6, h7, by omega, h10⟩
      simp (disch := omega) only [ite_true, bX3_print_7, ev, wr_id, if_neg, Option.bind_some]) n N.toNat (0, up μ 76 1 0) ⟨(0, fun _ => 0), ⟨by dsimp only; omega, Int.le_refl _⟩, ⟨rd_at, fun i i1 i2 => by dsimp only at i2; omega⟩, ⟨Int.le_refl _, fun i i1 i2 => by dsimp only at i2; omega⟩, by dsimp only; omega, rfl, f0⟩ (by omega)
  refine ⟨y, ?_, r2, r3, r4, r5⟩
  simp only [fX3_print, qPf_eq, r1, Option.bind_some]
theorem m_row {T s u : Int} (hn : 5000 ≤ n) (h : MW μ w) (hw : WR w) (hG : GM μ T c) (hT : wr s = 0 ∧ T = 2 ∨ wr s ≠ 0 ∧ T = 66) (hV : Vd N c) (hu : 0 ≤ u ∧ u < 8) (hl : w.1 + 4 * rs (fun v => c u v) u 8 ≤ 64) : ∃ μ', lp (fun x : Int × qMu => bX10_write_20 n s u x.1 x.2) n (u, μ) = some μ' ∧ MW μ' (wri c u (8 - u).toNat u w) ∧ WR (wri c u (8 - u).toNat u w) ∧ (wri c u (8 - u).toNat u w).1 ≤ w.1 + 4 * rs (fun v => c u v) u 8 ∧ Fr [78, 91] μ μ' ∧ ∀ i, i ≠ 26 → rd μ' 78 i = rd μ 78 i := by
  have hN := hV.N
  have hT' : T = 2 ∨ T = 66 := by
    rcases hT with h | h
    · exact Or.inl h.2
    · exact Or.inr h.2
  have et : ∀ ξ, fX10_table s ξ = some T := fun ξ => by
    unfold fX10_table
    rcases hT with ⟨h1, rfl⟩ | ⟨h1, rfl⟩
    · rw [if_pos h1]
    · rw [if_neg h1]
  obtain ⟨y, r1, r2, r3, r4, r5, r6⟩ := lp_inv (f := fun x : Int × qMu => bX10_write_20 n s u x.1 x.2) (fun k x => ∃ w', (x.1 = 8 - (k : Int) ∧ u ≤ x.1) ∧ MW x.2 w' ∧ WR w' ∧ w'.1 + 4 * rs (fun v => c u v) x.1 8 ≤ w.1 + 4 * rs (fun v => c u v) u 8 ∧ wri c u (8 - x.1).toNat x.1 w' = wri c u (8 - u).toNat u w ∧ Fr [78, 91] μ x.2 ∧ ∀ i, i ≠ 26 → rd x.2 78 i = rd μ 78 i) (fun y => MW y (wri c u (8 - u).toNat u w) ∧ WR (wri c u (8 - u).toNat u w) ∧ (wri c u (8 - u).toNat u w).1 ≤ w.1 + 4 * rs (fun v => c u v) u 8 ∧ Fr [78, 91] μ y ∧ ∀ i, i ≠ 26 → rd y 78 i = rd μ 78 i) (by
    rintro k ⟨z, ξ⟩ ⟨w', ⟨h4, h5⟩, h6, h7, h8, h9, h10, h11⟩
    dsimp only at h4 h5 h6 h8 h9 h10 h11
    have hGξ : GM ξ T c := hG.kp (h10 79 (by decide))
    by_cases hz : z < 8
    · right
      have ez : wri c u (8 - z).toNat z w' = wri c u (8 - (z + 1)).toNat (z + 1) (if 0 < c u z then wre w' u z (c u z) else w') := by
        rw [show (8 - z).toNat = (8 - (z + 1)).toNat + 1 by omega]
        rfl
      have eb := m_many hGξ hT' (u := u) (v := z) (by omega) (by omega)
      have er : rs (fun v => c u v) z 8 = c u z + rs (fun v => c u v) (z + 1) 8 := rs_step (by omega)
      have hr := hV.r u z
      have hr2 : 0 ≤ rs (fun v => c u v) (z + 1) 8 := rs_nn (fun k _ _ => (hV.r u k).1)
      rw [ez] at h9
      by_cases c1 : 0 < c u z
      · rw [if_pos c1] at h9
        have hx := x_edges_len (w := w') h7 (u := u) (v := z) (k := c u z) (by omega) (by omega) (by omega)
        obtain ⟨ξ1, a1, a2, a3, a6⟩ := m_edges h6 h7 (u := u) (v := z) (k := c u z) (by omega) (by omega) (by omega) (by omega)
        refine ⟨k - 1, (z + 1, ξ1), ?_, by omega, wre w' u z (c u z), ⟨by dsimp only; omega, by dsimp only; omega⟩, a2, hx.1, by dsimp only; have := hx.2; omega, h9, h10.tr a3, fun i hi => (a6 i hi).trans (h11 i hi)⟩
        simp (disch := omega) only [ite_true, bX10_write_20, et, eb, a1, wr_id, if_pos, Option.bind_some]
      · rw [if_neg c1] at h9
        refine ⟨k - 1, (z + 1, ξ), ?_, by omega, w', ⟨by dsimp only; omega, by dsimp only; omega⟩, h6, h7, by dsimp only; omega, h9, h10, h11⟩
        simp (disch := omega) only [ite_true, bX10_write_20, et, eb, wr_id, if_pos, if_neg, Option.bind_some]
    · left
      have hzN : z = 8 := by omega
      subst hzN
      have e0 : wri c u (8 - 8 : Int).toNat 8 w' = w' := rfl
      rw [e0] at h9
      have hr2 : rs (fun v => c u v) 8 8 = 0 := rs_end (Int.le_refl _)
      rw [← h9]
      refine ⟨ξ, ?_, h6, h7, by omega, h10, h11⟩
      simp (disch := omega) only [ite_true, bX10_write_20, wr_id, if_neg]) n (8 - u).toNat (u, μ) ⟨w, ⟨by dsimp only; omega, Int.le_refl _⟩, h, hw, Int.le_refl _, rfl, Fr.rf _ _, fun _ _ => rfl⟩ (by omega)
  exact ⟨y, r1, r2, r3, r4, r5, r6⟩
theorem m_print {T s : Int} (hn : 5000 ≤ n) (hG : GM μ T c) (hT : wr s = 0 ∧ T = 2 ∨ wr s ≠ 0 ∧ T = 66) (hV : Vd N c) : ∃ μ', fX10_write n s μ = some ((wrt c).1, μ') ∧ MW μ' (wrt c) ∧ Fr [78, 91] μ μ' ∧ ∀ i, i ≠ 4 → i ≠ 26 → rd μ' 78 i = rd μ 78 i := by
  have hN := hV.N
  obtain ⟨μ0, hμ0⟩ : ∃ μ0, μ0 = up (up μ 78 4 0) 78 26 0 := ⟨_, rfl⟩
  have f0 : Fr [78, 91] μ μ0 := by
    rw [hμ0]
    exact (Fr.up (by simp)).tr (Fr.up (by simp))
  have g0 : ∀ i, i ≠ 4 → i ≠ 26 → rd μ0 78 i = rd μ 78 i := fun i i1 i2 => by
    rw [hμ0, rd_ni i2, rd_ni i1]
  have e26 : rd μ0 78 26 = 0 := by
    rw [hμ0, rd_at]
    rfl
  have hE : rs (fun u => rs (fun v => c u v) u 8) 0 8 ≤ 16 := hV.2.2.2.2
  obtain ⟨y, r1, r2, r5, r6⟩ := lp_inv (f := fun x : Int × qMu => bX10_write_12 n s x.1 x.2) (fun k x => ∃ w', (x.1 = 8 - (k : Int) ∧ 0 ≤ x.1) ∧ MW x.2 w' ∧ WR w' ∧ w'.1 + 4 * rs (fun u => rs (fun v => c u v) u 8) x.1 8 ≤ 64 ∧ wro c (8 - x.1).toNat x.1 w' = wrt c ∧ Fr [78, 91] μ x.2 ∧ ∀ i, i ≠ 4 → i ≠ 26 → rd x.2 78 i = rd μ 78 i) (fun y => MW y (wrt c) ∧ Fr [78, 91] μ y ∧ ∀ i, i ≠ 4 → i ≠ 26 → rd y 78 i = rd μ 78 i) (by
    rintro k ⟨z, ξ⟩ ⟨w', ⟨h4, h5⟩, h6, h7, h8, h9, h10, h11⟩
    dsimp only at h4 h5 h6 h8 h9 h10 h11
    have hGξ : GM ξ T c := hG.kp (h10 79 (by decide))
    by_cases hz : z < 8
    · right
      have ez := wro_st (c := c) (z := z) (w := w') (by omega)
      have er : rs (fun u => rs (fun v => c u v) u 8) z 8 = rs (fun v => c z v) z 8 + rs (fun u => rs (fun v => c u v) u 8) (z + 1) 8 := rs_step (by omega)
      have hr2 : 0 ≤ rs (fun u => rs (fun v => c u v) u 8) (z + 1) 8 := rs_nn (fun k _ _ => rs_nn (fun j _ _ => (hV.r k j).1))
      rw [ez] at h9
      obtain ⟨ξ1, a1, a2, a3, a4, a5, a6⟩ := m_row (u := z) hn h6 h7 hGξ hT hV (by omega) (by omega)
      refine ⟨k - 1, (z + 1, ξ1), ?_, by omega, _, ⟨by dsimp only; omega, by dsimp only; omega⟩, a2, a3, by dsimp only; omega, h9, h10.tr a5, fun i i1 i2 => (a6 i i2).trans (h11 i i1 i2)⟩
      simp (disch := omega) only [ite_true, bX10_write_12, a1, wr_id, if_pos, Option.bind_some]
    · left
      have hzN : z = 8 := by omega
      subst hzN
      have e0 : wro c (8 - 8 : Int).toNat 8 w' = w' := rfl
      rw [e0] at h9
      rw [← h9]
      refine ⟨ξ, ?_, h6, h10, h11⟩
      simp (disch := omega) only [ite_true, bX10_write_12, wr_id, if_neg]) n 8 (0, μ0) ⟨(0, fun _ => 0), ⟨rfl, Int.le_refl _⟩, ⟨e26, fun i i1 i2 => by dsimp only at i2; omega⟩, ⟨Int.le_refl _, fun i i1 i2 => by dsimp only at i2; omega⟩, by dsimp only; omega, rfl, f0, g0⟩ (by omega)
  refine ⟨y, ?_, r2, r5, r6⟩
  rw [hμ0] at r1
  simp only [fX10_write, qPf_eq, r1, Option.bind_some, r2.1]
end WRS
