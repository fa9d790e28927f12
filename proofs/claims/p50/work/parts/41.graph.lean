/-! GRAPHS, and what both sides tell of them -/
def Ed (c : Int → Int → Int) : Int := rs (fun u => rs (fun v => c u v) u 8) 0 8
def Vd (N : Int) (c : Int → Int → Int) : Prop := (1 ≤ N ∧ N ≤ 8) ∧ (∀ u v, 0 ≤ c u v) ∧ (∀ u v, c u v = c v u) ∧ (∀ u v, c u v ≠ 0 → (0 ≤ u ∧ u < N) ∧ (0 ≤ v ∧ v < N)) ∧ Ed c ≤ 16
def GX (μ : qMu) (g : Nat) (N : Int) (c : Int → Int → Int) : Prop := rd μ g 1 = N ∧ ∀ u v, (0 ≤ u ∧ u < 8) → (0 ≤ v ∧ v < 8) → rd μ (g + 1) (u * 8 + v) = c u v
def GM (μ : qMu) (T : Int) (c : Int → Int → Int) : Prop := ∀ u v, (0 ≤ u ∧ u < 8) → (0 ≤ v ∧ v < 8) → rd μ 79 (T + 8 * u + v) = c u v
theorem Vd.N {N : Int} {c : Int → Int → Int} (h : Vd N c) : 1 ≤ N ∧ N ≤ 8 := h.1
theorem Vd.z1 {N : Int} {c : Int → Int → Int} (h : Vd N c) {u v : Int} (hu : u < 0 ∨ N ≤ u) : c u v = 0 :=
  Classical.byContradiction fun q => by have := h.2.2.2.1 u v q; omega
theorem Vd.z2 {N : Int} {c : Int → Int → Int} (h : Vd N c) {u v : Int} (hu : v < 0 ∨ N ≤ v) : c u v = 0 :=
  Classical.byContradiction fun q => by have := h.2.2.2.1 u v q; omega
theorem Vd.le {N : Int} {c : Int → Int → Int} (h : Vd N c) (u v : Int) : c u v ≤ Ed c := by
  have key : ∀ u v, (0 ≤ u ∧ u < 8) → (u ≤ v ∧ v < 8) → c u v ≤ Ed c := by
    intro u v hu hv
    have h1 : c u v ≤ rs (fun v => c u v) u 8 := rs_ge (f := fun v => c u v) hv.1 hv.2 (fun k _ _ => h.2.1 u k)
    have h2 : rs (fun v => c u v) u 8 ≤ Ed c := rs_ge (f := fun u => rs (fun v => c u v) u 8) hu.1 hu.2 (fun k _ _ => rs_nn (fun j _ _ => h.2.1 k j))
    omega
  have h0 : 0 ≤ Ed c := rs_nn (fun k _ _ => rs_nn (fun j _ _ => h.2.1 k j))
  by_cases hz : c u v = 0
  · omega
  · have h1 := h.2.2.2.1 u v hz
    have h2 := h.1
    by_cases huv : u ≤ v
    · exact key u v (by omega) (by omega)
    · rw [h.2.2.1 u v]
      exact key v u (by omega) (by omega)
theorem Vd.r {N : Int} {c : Int → Int → Int} (h : Vd N c) (u v : Int) : 0 ≤ c u v ∧ c u v ≤ 16 := ⟨h.2.1 u v, by have := h.le u v; have := h.2.2.2.2; omega⟩
theorem Vd.w {N : Int} {c : Int → Int → Int} (h : Vd N c) (u v : Int) : wr (c u v) = c u v := by
  have := h.r u v
  exact wr_id (by omega) (by omega)
def mz (x : Int) : Int := if 0 < x then x else 0
def lpc (c : Int → Int → Int) : Int := rs (fun v => c v v) 0 8
def dgs (c : Int → Int → Int) (u : Int) : Int := c u u + rs (fun v => c u v) 0 8
def dfc (c : Int → Int → Int) : Int := lpc c + rs (fun u => rs (fun v => mz (c u v - 1)) (u + 1) 8) 0 8
def nbs (c : Int → Int → Int) (u : Int) : Int := rs (fun v => if v ≠ u ∧ 0 < c u v then 1 else 0) 0 8
def trs (c : Int → Int → Int) : Int := rs (fun u => rs (fun v => rs (fun w => if 0 < c u v ∧ 0 < c v w ∧ 0 < c u w then 1 else 0) (v + 1) 8) (u + 1) 8) 0 8
def sps (c t : Int → Int → Int) : Int := rs (fun u => rs (fun v => mz (c u v - t u v)) u 8) 0 8
theorem mx_mz {x : Int} (h : -2147483648 ≤ x ∧ x ≤ 2147483647) : mx 0 x = mz x := by
  rw [mx_id (by omega) h]
  rfl
/-- loops that sum, over variables of their own -/
theorem lp_rs2 {F : Int → Int → Option ((Int × Int) ⊕ Int)} {g : Int → Int} {b : Int} (a : Int) (hs : ∀ z k, a ≤ k → k < b → F z k = some (.inl (z + g k, k + 1))) (he : ∀ z, F z b = some (.inr z)) {n : Nat} {z k : Int} (h1 : a ≤ k) (h2 : k ≤ b) (h3 : (b - k).toNat < n) : lp (fun x : Int × Int => F x.1 x.2) n (z, k) = some (z + rs g k b) :=
  lp_rs (f := fun x : Int × Int => F x.1 x.2) a hs he n z k h1 h2 h3
section GXS
variable {μ : qMu} {g n : Nat} {N : Int} {c t : Int → Int → Int}
theorem x_between (h : GX μ g N c) {u v : Int} (hu : 0 ≤ u ∧ u < 8) (hv : 0 ≤ v ∧ v < 8) : fX1_between g u v μ = some (c u v) := by
  have := h.2 u v hu hv
  simp (disch := omega) only [fX1_between, qLd_in, Option.bind_some, this]
theorem x_degreeOf (hn : 5000 ≤ n) (h : GX μ g N c) (hV : Vd N c) {u : Int} (hu : 0 ≤ u ∧ u < 8) : fX1_degreeOf n g u μ = some (dgs c u) := by
  have hN := hV.N
  have hb : ∀ z k, 0 ≤ k → k < N → bX1_degreeOf_9 n g u z k μ = some (.inl (z + c u k, k + 1)) := by
    intro z k h1 h2
    simp (disch := omega) only [bX1_degreeOf_9, h.1, wr_id, if_pos, x_between h, Option.bind_some]
  have he : ∀ z, bX1_degreeOf_9 n g u z N μ = some (.inr z) := by
    intro z
    simp (disch := omega) only [bX1_degreeOf_9, h.1, wr_id, if_neg]
  simp only [fX1_degreeOf, x_between h hu hu, Option.bind_some]
  rw [lp_rs2 0 hb he (by omega) (by omega) (by omega), ← rs_tail (b := 8) (by omega) (by omega) (fun k h1 h2 => hV.z2 (by omega))]
  rfl
theorem x_loopCount (hn : 5000 ≤ n) (h : GX μ g N c) (hV : Vd N c) : fX1_loopCount n g μ = some (lpc c) := by
  have hN := hV.N
  have hb : ∀ z k, 0 ≤ k → k < N → bX1_loopCount_4 n g z k μ = some (.inl (z + c k k, k + 1)) := by
    intro z k h1 h2
    simp (disch := omega) only [bX1_loopCount_4, h.1, wr_id, if_pos, x_between h, Option.bind_some]
  have he : ∀ z, bX1_loopCount_4 n g z N μ = some (.inr z) := by
    intro z
    simp (disch := omega) only [bX1_loopCount_4, h.1, wr_id, if_neg]
  simp only [fX1_loopCount]
  rw [lp_rs2 (g := fun k => c k k) 0 hb he (by omega) (by omega) (by omega), ← rs_tail (f := fun k => c k k) (b := 8) (by omega) (by omega) (fun k h1 h2 => hV.z2 (by omega)), Int.zero_add]
  rfl
theorem x_defectCount (hn : 5000 ≤ n) (h : GX μ g N c) (hV : Vd N c) : fX1_defectCount n g μ = some (dfc c) := by
  have hN := hV.N
  have hi : ∀ u, 0 ≤ u → u < N → ∀ z k, u + 1 ≤ k → k < N → bX1_defectCount_19 n g u z k μ = some (.inl (z + mz (c u k - 1), k + 1)) := by
    intro u h3 h4 z k h1 h2
    have hr := hV.r u k
    rw [← mx_mz (by omega)]
    simp (disch := omega) only [bX1_defectCount_19, h.1, wr_id, if_pos, x_between h, Option.bind_some]
  have hie : ∀ u z, bX1_defectCount_19 n g u z N μ = some (.inr z) := by
    intro u z
    simp (disch := omega) only [bX1_defectCount_19, h.1, wr_id, if_neg]
  have hb : ∀ z k, 0 ≤ k → k < N → bX1_defectCount_7 n g z k μ = some (.inl (z + rs (fun v => mz (c k v - 1)) (k + 1) 8, k + 1)) := by
    intro z k h1 h2
    simp (disch := omega) only [bX1_defectCount_7, h.1, wr_id, if_pos]
    rw [lp_rs2 (k + 1) (hi k h1 h2) (hie k) (by omega) (by omega) (by omega), ← rs_tail (f := fun v => mz (c k v - 1)) (b := 8) (by omega) (by omega) (fun j h3 h4 => by show mz (c k j - 1) = 0; rw [hV.z2 (by omega)]; rfl)]
    rfl
  have he : ∀ z, bX1_defectCount_7 n g z N μ = some (.inr z) := by
    intro z
    simp (disch := omega) only [bX1_defectCount_7, h.1, wr_id, if_neg]
  simp only [fX1_defectCount, x_loopCount hn h hV, Option.bind_some]
  rw [lp_rs2 0 hb he (by omega) (by omega) (by omega), ← rs_tail (b := 8) (by omega) (by omega) (fun k h1 h2 => rs_zero (fun j h3 h4 => by show mz (c k j - 1) = 0; rw [hV.z1 (by omega)]; rfl))]
  rfl
theorem x_common (hn : 5000 ≤ n) (h : GX μ g N c) (hV : Vd N c) {u v : Int} (hu : 0 ≤ u ∧ u < 8) (hv : 0 ≤ v ∧ v < N) : fX1_commonNeighboursBehind n g u v μ = some (rs (fun w => if 0 < c u w ∧ 0 < c v w then 1 else 0) (v + 1) 8) := by
  have hN := hV.N
  have hb : ∀ z k, v + 1 ≤ k → k < N → bX1_commonNeighboursBehind_7 n g u v z k μ = some (.inl (z + (if 0 < c u k ∧ 0 < c v k then 1 else 0), k + 1)) := by
    intro z k h1 h2
    simp (disch := omega) only [bX1_commonNeighboursBehind_7, h.1, wr_id, if_pos, x_between h, Option.bind_some, hV.w]
    by_cases h3 : 0 < c u k
    · rw [if_pos h3]
      by_cases h4 : 0 < c v k
      · rw [if_pos h4, if_pos ⟨h3, h4⟩]
        rfl
      · rw [if_neg h4, if_neg (fun q => h4 q.2)]
        show some (Sum.inl (z, k + 1)) = some (Sum.inl (z + 0, k + 1))
        rw [Int.add_zero]
    · rw [if_neg h3, if_neg (fun q => h3 q.1)]
      show some (Sum.inl (z, k + 1)) = some (Sum.inl (z + 0, k + 1))
      rw [Int.add_zero]
  have he : ∀ z, bX1_commonNeighboursBehind_7 n g u v z N μ = some (.inr z) := by
    intro z
    simp (disch := omega) only [bX1_commonNeighboursBehind_7, h.1, wr_id, if_neg]
  simp only [fX1_commonNeighboursBehind]
  rw [lp_rs2 (v + 1) hb he (by omega) (by omega) (by omega), ← rs_tail (b := 8) (by omega) (by omega) (fun k h1 h2 => by rw [if_neg (fun q => by have := hV.z2 (u := u) (v := k) (by omega); omega)]), Int.zero_add]
  rfl
theorem x_triangleCount (hn : 5000 ≤ n) (h : GX μ g N c) (hV : Vd N c) : fX1_triangleCount n g μ = some (trs c) := by
  have hN := hV.N
  have hi : ∀ u, 0 ≤ u → u < N → ∀ z k, u + 1 ≤ k → k < N → bX1_triangleCount_16 n g u z k μ = some (.inl (z + rs (fun w => if 0 < c u k ∧ 0 < c k w ∧ 0 < c u w then 1 else 0) (k + 1) 8, k + 1)) := by
    intro u h3 h4 z k h1 h2
    simp (disch := omega) only [bX1_triangleCount_16, h.1, wr_id, if_pos, x_between h, Option.bind_some, hV.w]
    by_cases h5 : 0 < c u k
    · rw [if_pos h5, x_common hn h hV (by omega) (by omega)]
      show some (Sum.inl (z + _, k + 1)) = _
      rw [rs_congr (g := fun w => if 0 < c u k ∧ 0 < c k w ∧ 0 < c u w then 1 else 0) (fun w _ _ => ?_)]
      by_cases h6 : 0 < c u w <;> by_cases h7 : 0 < c k w <;> simp [h5, h6, h7]
    · rw [if_neg h5, rs_zero (fun w _ _ => by rw [if_neg (fun q => h5 q.1)]), Int.add_zero]
      rfl
  have hie : ∀ u z, bX1_triangleCount_16 n g u z N μ = some (.inr z) := by
    intro u z
    simp (disch := omega) only [bX1_triangleCount_16, h.1, wr_id, if_neg]
  have hz : ∀ u k, N ≤ u ∨ N ≤ k → rs (fun w => if 0 < c u k ∧ 0 < c k w ∧ 0 < c u w then 1 else 0) (k + 1) 8 = 0 := by
    intro u k hk
    refine rs_zero (fun w _ _ => ?_)
    rw [if_neg (fun q => ?_)]
    rcases hk with hk | hk
    · have := hV.z1 (u := u) (v := k) (by omega); omega
    · have := hV.z2 (u := u) (v := k) (by omega); omega
  have hb : ∀ z k, 0 ≤ k → k < N → bX1_triangleCount_4 n g z k μ = some (.inl (z + rs (fun v => rs (fun w => if 0 < c k v ∧ 0 < c v w ∧ 0 < c k w then 1 else 0) (v + 1) 8) (k + 1) 8, k + 1)) := by
    intro z k h1 h2
    simp (disch := omega) only [bX1_triangleCount_4, h.1, wr_id, if_pos]
    rw [lp_rs2 (k + 1) (hi k h1 h2) (hie k) (by omega) (by omega) (by omega), ← rs_tail (b := 8) (by omega) (by omega) (fun j h3 h4 => hz k j (Or.inr h3))]
    rfl
  have he : ∀ z, bX1_triangleCount_4 n g z N μ = some (.inr z) := by
    intro z
    simp (disch := omega) only [bX1_triangleCount_4, h.1, wr_id, if_neg]
  simp only [fX1_triangleCount]
  rw [lp_rs2 0 hb he (by omega) (by omega) (by omega), ← rs_tail (b := 8) (by omega) (by omega) (fun k h1 h2 => rs_zero (fun j _ _ => hz k j (Or.inl h1))), Int.zero_add]
  rfl
end GXS
