/-! THE LAW'S QUESTIONS: its own counts -/
/-- the class holds e, the law's table says the same -/
def QS (μ : qMu) (e : qEn) : Prop := CX μ e ∧ EV e ∧ (1 ≤ e.1 ∧ e.1 ≤ 6) ∧ rd μ 78 2 = e.1 ∧ rd μ 78 3 = e.2.1 ∧ Tab μ e.2.2.1 ∧ e.2.2.2 = zc
theorem QS.kp {μ μ' : qMu} {e : qEn} (h : QS μ e) (f : ∀ a, a < 87 → a ∉ [19, 20, 22, 23, 24] → μ' a = μ a) : QS μ' e := by
  obtain ⟨h1, h2, h3, h4, h5, h6, h7⟩ := h
  exact ⟨h1.kp (rd_cg (f 0 (by omega) (by decide)) 11) (f 11 (by omega) (by decide)) (f 12 (by omega) (by decide)) (f 13 (by omega) (by decide)) (f 14 (by omega) (by decide)), h2, h3, (rd_cg (f 78 (by omega) (by decide)) 2).trans h4, (rd_cg (f 78 (by omega) (by decide)) 3).trans h5, h6.kp (fun a a1 a2 => f a (by omega) (by simp; omega)), h7⟩
theorem QS.fc {μ μ' : qMu} {e : qEn} (h : QS μ e) (f : FC μ μ') : QS μ' e := h.kp (fun a _ ha => f a ha)
section QUE
variable {μ : qMu} {n : Nat} {e : qEn} {p q r s : Int}
theorem x_many (h : QS μ e) (hp : 0 ≤ p ∧ p < 6) (hq : 0 ≤ q ∧ q < 6) : fL_many p q μ = some (e.2.2.1 p q) := by
  obtain ⟨h1, h2, h3, h4, h5, h6, h7⟩ := h
  unfold fL_many
  by_cases c : q < p
  · rw [mn_id (by omega) (by omega), if_pos c, mx_id (by omega) (by omega), if_neg (by omega)]
    obtain ⟨a1, a2⟩ := h6.at (i := q) (j := p) (by omega)
    rw [a1, obs, a2, obs, h2.1.2.2.1 q p]
  · obtain ⟨a1, a2⟩ := h6.at (i := p) (j := q) (by omega)
    have e2 : mx p q = q := by
      rw [mx_id (by omega) (by omega)]
      split <;> omega
    rw [mn_id (by omega) (by omega), if_neg c, e2, a1, obs, a2, obs]
theorem x_degL (hn : 5000 ≤ n) (h : QS μ e) (hp : 0 ≤ p ∧ p < 6) : fL_degree n p μ = some (dgs e.2.2.1 p) := by
  have hV := h.2.1.1
  have hN := h.2.2.1
  have h4 := h.2.2.2.1
  obtain ⟨a1, a2⟩ := h.2.2.2.2.2.1.at (i := p) (j := p) (by omega)
  have hb : ∀ z k, 0 ≤ k → k < e.1 → bL_degree_11 n p z k μ = some (.inl (z + e.2.2.1 p k, k + 1)) := by
    intro z k k1 k2
    unfold bL_degree_11
    rw [h4, wr_id (x := k) (by omega) (by omega), wr_id (x := e.1) (by omega) (by omega), if_pos k2, x_many h hp (by omega), obs]
  have he : ∀ z, bL_degree_11 n p z e.1 μ = some (.inr z) := by
    intro z
    unfold bL_degree_11
    rw [h4, if_neg (by omega)]
  unfold fL_degree
  rw [a1, obs, a2, obs, lp_rs2 (g := fun k => e.2.2.1 p k) 0 hb he (by omega) (by omega) (by omega), obs, ← rs_tail (f := fun k => e.2.2.1 p k) (b := 8) (by omega) (by omega) (fun k k1 k2 => hV.z2 (by omega))]
  rfl
theorem x_edgL (hn : 5000 ≤ n) (h : QS μ e) : fL_edges n μ = some (Ed e.2.2.1) := by
  have hV := h.2.1.1
  have hN := h.2.2.1
  have h4 := h.2.2.2.1
  have hi : ∀ u, 0 ≤ u → u < e.1 → ∀ z k, u ≤ k → k < e.1 → bL_edges_14 n u z k μ = some (.inl (z + e.2.2.1 u k, k + 1)) := by
    intro u u1 u2 z k k1 k2
    obtain ⟨a1, a2⟩ := h.2.2.2.2.2.1.at (i := u) (j := k) (by omega)
    unfold bL_edges_14
    rw [h4, wr_id (x := k) (by omega) (by omega), wr_id (x := e.1) (by omega) (by omega), if_pos k2, a1, obs, a2, obs]
  have hie : ∀ u z, bL_edges_14 n u z e.1 μ = some (.inr z) := by
    intro u z
    unfold bL_edges_14
    rw [h4, if_neg (by omega)]
  have hb : ∀ z k, 0 ≤ k → k < e.1 → bL_edges_4 n z k μ = some (.inl (z + rs (fun v => e.2.2.1 k v) k 8, k + 1)) := by
    intro z k k1 k2
    unfold bL_edges_4
    rw [h4, wr_id (x := k) (by omega) (by omega), wr_id (x := e.1) (by omega) (by omega), if_pos k2, lp_rs2 (g := fun v => e.2.2.1 k v) k (hi k k1 k2) (hie k) (by omega) (by omega) (by omega), obs, ← rs_tail (f := fun v => e.2.2.1 k v) (b := 8) (by omega) (by omega) (fun j j1 j2 => hV.z2 (by omega))]
  have he : ∀ z, bL_edges_4 n z e.1 μ = some (.inr z) := by
    intro z
    unfold bL_edges_4
    rw [h4, if_neg (by omega)]
  unfold fL_edges
  rw [lp_rs2 (g := fun k => rs (fun v => e.2.2.1 k v) k 8) 0 hb he (by omega) (by omega) (by omega), obs, Int.zero_add, ← rs_tail (f := fun k => rs (fun v => e.2.2.1 k v) k 8) (b := 8) (by omega) (by omega) (fun k k1 k2 => rs_zero (fun j _ _ => hV.z1 (by omega)))]
  rfl
/-- from one on only -/
theorem rs_from {f : Int → Int} {a b : Int} (ha : 0 ≤ a ∧ a ≤ b) : rs (fun v => if a ≤ v then f v else 0) 0 b = rs f a b := by
  rw [rs_cut ha.1 ha.2, rs_zero (fun k k1 k2 => if_neg (by omega)), Int.zero_add]
  exact rs_congr (fun k k1 k2 => if_pos k1)
def tri (c : Int → Int → Int) (u v w : Int) : Int := if 0 < c u v ∧ 0 < c v w ∧ 0 < c u w then 1 else 0
theorem x_tri (hn : 5000 ≤ n) (h : QS μ e) {a b u v z : Int} (hu : 0 ≤ u ∧ u < e.1) (hv : 0 ≤ v ∧ v < e.1) : lp (fun x : Int × Int => bL_isGraph_130 n a b u v x.1 x.2 μ) n (z, v + 1) = some (z + if u + 1 ≤ v then rs (tri e.2.2.1 u v) (v + 1) e.1 else 0) := by
  have hV := h.2.1.1
  have hN := h.2.2.1
  have h4 := h.2.2.2.1
  by_cases c : u + 1 ≤ v
  · have hb : ∀ z k, v + 1 ≤ k → k < e.1 → bL_isGraph_130 n a b u v z k μ = some (.inl (z + tri e.2.2.1 u v k, k + 1)) := by
      intro z k k1 k2
      have e1 : (if 0 < wr (e.2.2.1 u v) then (fL_many v k μ).bind fun y30 => if 0 < wr y30 then (fL_many u k μ).bind fun y32 => if 0 < wr y32 then some 1 else some 0 else some 0 else some 0) = some (tri e.2.2.1 u v k) := by
        rw [x_many h (by omega) (by omega), x_many h (by omega) (by omega)]
        simp only [obs, hV.w]
        unfold tri
        by_cases q1 : 0 < e.2.2.1 u v <;> by_cases q2 : 0 < e.2.2.1 v k <;> by_cases q3 : 0 < e.2.2.1 u k <;> simp [q1, q2, q3]
      unfold bL_isGraph_130
      rw [h4, wr_id (x := k) (by omega) (by omega), wr_id (x := e.1) (by omega) (by omega), if_pos k2, wr_id (x := u) (by omega) (by omega), wr_id (x := v) (by omega) (by omega), if_pos (by omega), x_many h (p := u) (q := v) (by omega) (by omega), obs, e1, obs]
    have he : ∀ z, bL_isGraph_130 n a b u v z e.1 μ = some (.inr z) := by
      intro z
      unfold bL_isGraph_130
      rw [h4, if_neg (by omega)]
    rw [if_pos c, lp_rs2 (g := tri e.2.2.1 u v) (v + 1) hb he (by omega) (by omega) (by omega)]
  · obtain ⟨n, rfl⟩ : ∃ n', n = n' + 1 := ⟨n - 1, by omega⟩
    have e1 : bL_isGraph_130 (n + 1) a b u v z (v + 1) μ = some (.inr z) := by
      unfold bL_isGraph_130
      by_cases q : wr (v + 1) < wr (rd μ 78 2)
      · rw [if_pos q, if_neg (by rw [wr_id (by omega) (by omega), wr_id (by omega) (by omega)]; omega)]
      · rw [if_neg q]
    rw [if_neg c, Int.add_zero, lp_s]
    dsimp only
    rw [e1]
    rfl
def gdf (c : Int → Int → Int) (u v : Int) : Int := if u + 1 ≤ v then mz (c u v - 1) else 0
def gtr (c : Int → Int → Int) (N u v : Int) : Int := if u + 1 ≤ v then rs (tri c u v) (v + 1) N else 0
theorem x_gr53 (hn : 5000 ≤ n) (h : QS μ e) {a u z z4 : Int} (hu : 0 ≤ u ∧ u < e.1) : lp (fun x : Int × Int × Int => bL_isGraph_53 n a u x.1 x.2.1 x.2.2 μ) n (z, z4, 0) = some (.inl (z + rs (gdf e.2.2.1 u) 0 e.1, z4 + rs (gtr e.2.2.1 e.1 u) 0 e.1)) := by
  have hV := h.2.1.1
  have hN := h.2.2.1
  have h4 := h.2.2.2.1
  have key := lp_seq (f := fun x : Int × Int × Int => bL_isGraph_53 n a u x.1 x.2.1 x.2.2 μ) (fun j => (z + rs (gdf e.2.2.1 u) 0 (j : Int), z4 + rs (gtr e.2.2.1 e.1 u) 0 (j : Int), (j : Int))) e.1.toNat (b := .inl (z + rs (gdf e.2.2.1 u) 0 e.1, z4 + rs (gtr e.2.2.1 e.1 u) 0 e.1)) (fun j hj => by
    have ev : 0 ≤ (j : Int) ∧ (j : Int) < e.1 := by omega
    have hr := hV.r u (j : Int)
    have e1 : e.2.2.2 u (j : Int) = 0 := by rw [h.2.2.2.2.2.2]; rfl
    have e2 : (if wr u < wr (j : Int) then (fL_many u (j : Int) μ).bind fun y24 => some (mx 0 (y24 - 1)) else some 0) = some (gdf e.2.2.1 u (j : Int)) := by
      rw [wr_id (x := u) (by omega) (by omega), wr_id (x := (j : Int)) (by omega) (by omega)]
      unfold gdf
      by_cases q : u < (j : Int)
      · rw [if_pos q, if_pos (by omega), x_many h (by omega) (by omega), obs, mx_mz (by omega)]
      · rw [if_neg q, if_neg (by omega)]
    show bL_isGraph_53 n a u (z + rs (gdf e.2.2.1 u) 0 (j : Int)) (z4 + rs (gtr e.2.2.1 e.1 u) 0 (j : Int)) (j : Int) μ = _
    unfold bL_isGraph_53
    rw [h4, if_pos (show wr (j : Int) < wr e.1 by rw [wr_id (by omega) (by omega), wr_id (by omega) (by omega)]; omega), y_times0 h.1 h.2.1 hu ev, obs, Sum.elim_inl, e2, x_many h (by omega) (by omega), obs, if_pos rfl, y_times1 h.1 h.2.1 hu ev, obs, Sum.elim_inl, e1, if_pos c0w, obs, x_tri hn h hu ev, obs]
    show some (Sum.inl (z + rs (gdf e.2.2.1 u) 0 (j : Int) + gdf e.2.2.1 u (j : Int), z4 + rs (gtr e.2.2.1 e.1 u) 0 (j : Int) + gtr e.2.2.1 e.1 u (j : Int), (j : Int) + 1)) = some (Sum.inl (z + rs (gdf e.2.2.1 u) 0 ((j + 1 : Nat) : Int), z4 + rs (gtr e.2.2.1 e.1 u) 0 ((j + 1 : Nat) : Int), ((j + 1 : Nat) : Int)))
    rw [show ((j + 1 : Nat) : Int) = (j : Int) + 1 by omega, rs_last (f := gdf e.2.2.1 u) (by omega), rs_last (f := gtr e.2.2.1 e.1 u) (by omega), Int.add_assoc, Int.add_assoc]) (by
    show bL_isGraph_53 n a u (z + rs (gdf e.2.2.1 u) 0 ((e.1.toNat : Nat) : Int)) (z4 + rs (gtr e.2.2.1 e.1 u) 0 ((e.1.toNat : Nat) : Int)) ((e.1.toNat : Nat) : Int) μ = _
    rw [show ((e.1.toNat : Nat) : Int) = e.1 by omega]
    unfold bL_isGraph_53
    rw [h4, if_neg (by omega)]) n (by omega)
  have e0 : ∀ f : Int → Int, rs f 0 ((0 : Nat) : Int) = 0 := fun f => rs_end (Int.le_refl _)
  have s0 : ((z, z4, 0) : Int × Int × Int) = (z + rs (gdf e.2.2.1 u) 0 ((0 : Nat) : Int), z4 + rs (gtr e.2.2.1 e.1 u) 0 ((0 : Nat) : Int), ((0 : Nat) : Int)) := by
    rw [e0, e0, Int.add_zero, Int.add_zero]
    rfl
  rw [s0]
  exact key
theorem x_gr10 (hn : 5000 ≤ n) (h : QS μ e) : lp (fun x : Int × Int × Int × Int => bL_isGraph_10 n x.1 x.2.1 x.2.2.1 x.2.2.2 μ) n (0, 0, 0, 0) = some (.inl (lpc e.2.2.1, dfc e.2.2.1 - lpc e.2.2.1, trs e.2.2.1)) := by
  have hV := h.2.1.1
  have hN := h.2.2.1
  have h4 := h.2.2.2.1
  have key := lp_seq (f := fun x : Int × Int × Int × Int => bL_isGraph_10 n x.1 x.2.1 x.2.2.1 x.2.2.2 μ) (fun j => (rs (fun u => e.2.2.1 u u) 0 (j : Int), rs (fun u => rs (gdf e.2.2.1 u) 0 e.1) 0 (j : Int), rs (fun u => rs (gtr e.2.2.1 e.1 u) 0 e.1) 0 (j : Int), (j : Int))) e.1.toNat (b := .inl (rs (fun u => e.2.2.1 u u) 0 e.1, rs (fun u => rs (gdf e.2.2.1 u) 0 e.1) 0 e.1, rs (fun u => rs (gtr e.2.2.1 e.1 u) 0 e.1) 0 e.1)) (fun j hj => by
    have ev : 0 ≤ (j : Int) ∧ (j : Int) < e.1 := by omega
    obtain ⟨a1, a2⟩ := h.2.2.2.2.2.1.at (i := (j : Int)) (j := (j : Int)) (by omega)
    show bL_isGraph_10 n (rs (fun u => e.2.2.1 u u) 0 (j : Int)) (rs (fun u => rs (gdf e.2.2.1 u) 0 e.1) 0 (j : Int)) (rs (fun u => rs (gtr e.2.2.1 e.1 u) 0 e.1) 0 (j : Int)) (j : Int) μ = _
    unfold bL_isGraph_10
    rw [h4, if_pos (show wr (j : Int) < wr e.1 by rw [wr_id (by omega) (by omega), wr_id (by omega) (by omega)]; omega), a1, obs, a2, obs, y_degree hn h.1 h.2.1 ev, obs, Sum.elim_inl, x_degL hn h (by omega), obs, if_pos rfl, x_gr53 hn h ev, obs, Sum.elim_inl]
    show some (Sum.inl (rs (fun u => e.2.2.1 u u) 0 (j : Int) + e.2.2.1 (j : Int) (j : Int), rs (fun u => rs (gdf e.2.2.1 u) 0 e.1) 0 (j : Int) + rs (gdf e.2.2.1 (j : Int)) 0 e.1, rs (fun u => rs (gtr e.2.2.1 e.1 u) 0 e.1) 0 (j : Int) + rs (gtr e.2.2.1 e.1 (j : Int)) 0 e.1, (j : Int) + 1)) = some (Sum.inl (rs (fun u => e.2.2.1 u u) 0 ((j + 1 : Nat) : Int), rs (fun u => rs (gdf e.2.2.1 u) 0 e.1) 0 ((j + 1 : Nat) : Int), rs (fun u => rs (gtr e.2.2.1 e.1 u) 0 e.1) 0 ((j + 1 : Nat) : Int), ((j + 1 : Nat) : Int)))
    rw [show ((j + 1 : Nat) : Int) = (j : Int) + 1 by omega, rs_last (f := fun u => e.2.2.1 u u) (by omega), rs_last (f := fun u => rs (gdf e.2.2.1 u) 0 e.1) (by omega), rs_last (f := fun u => rs (gtr e.2.2.1 e.1 u) 0 e.1) (by omega)]) (by
    show bL_isGraph_10 n (rs (fun u => e.2.2.1 u u) 0 ((e.1.toNat : Nat) : Int)) (rs (fun u => rs (gdf e.2.2.1 u) 0 e.1) 0 ((e.1.toNat : Nat) : Int)) (rs (fun u => rs (gtr e.2.2.1 e.1 u) 0 e.1) 0 ((e.1.toNat : Nat) : Int)) ((e.1.toNat : Nat) : Int) μ = _
    rw [show ((e.1.toNat : Nat) : Int) = e.1 by omega]
    unfold bL_isGraph_10
    rw [h4, if_neg (by omega)]) n (by omega)
  have e0 : ∀ f : Int → Int, rs f 0 ((0 : Nat) : Int) = 0 := fun f => rs_end (Int.le_refl _)
  have s0 : ((0, 0, 0, 0) : Int × Int × Int × Int) = (rs (fun u => e.2.2.1 u u) 0 ((0 : Nat) : Int), rs (fun u => rs (gdf e.2.2.1 u) 0 e.1) 0 ((0 : Nat) : Int), rs (fun u => rs (gtr e.2.2.1 e.1 u) 0 e.1) 0 ((0 : Nat) : Int), ((0 : Nat) : Int)) := by
    rw [e0, e0, e0]
    rfl
  have t1 : rs (fun u => e.2.2.1 u u) 0 e.1 = lpc e.2.2.1 := (rs_tail (f := fun u => e.2.2.1 u u) (b := 8) (by omega) (by omega) (fun k k1 k2 => hV.z2 (by omega))).symm
  have t2 : rs (fun u => rs (gdf e.2.2.1 u) 0 e.1) 0 e.1 = dfc e.2.2.1 - lpc e.2.2.1 := by
    have q1 : rs (fun u => rs (gdf e.2.2.1 u) 0 e.1) 0 e.1 = rs (fun u => rs (fun v => mz (e.2.2.1 u v - 1)) (u + 1) 8) 0 e.1 := rs_congr (fun u u1 u2 => by
      show rs (gdf e.2.2.1 u) 0 e.1 = rs (fun v => mz (e.2.2.1 u v - 1)) (u + 1) 8
      rw [rs_tail (f := fun v => mz (e.2.2.1 u v - 1)) (m := e.1) (b := 8) (by omega) (by omega) (fun k k1 k2 => by show mz (e.2.2.1 u k - 1) = 0; rw [hV.z2 (by omega)]; rfl)]
      exact rs_from (f := fun v => mz (e.2.2.1 u v - 1)) (a := u + 1) (by omega))
    have q2 : rs (fun u => rs (fun v => mz (e.2.2.1 u v - 1)) (u + 1) 8) 0 8 = rs (fun u => rs (fun v => mz (e.2.2.1 u v - 1)) (u + 1) 8) 0 e.1 := rs_tail (by omega) (by omega) (fun k k1 k2 => rs_zero (fun j j1 j2 => by show mz (e.2.2.1 k j - 1) = 0; rw [hV.z1 (by omega)]; rfl))
    unfold dfc
    omega
  have t3 : rs (fun u => rs (gtr e.2.2.1 e.1 u) 0 e.1) 0 e.1 = trs e.2.2.1 := by
    have z1 : ∀ u v, e.1 ≤ u ∨ e.1 ≤ v → rs (tri e.2.2.1 u v) (v + 1) 8 = 0 := fun u v hq => rs_zero (fun w _ _ => by
      unfold tri
      rw [if_neg (fun q => ?_)]
      rcases hq with hq | hq
      · have := hV.z1 (u := u) (v := v) (by omega); omega
      · have := hV.z2 (u := u) (v := v) (by omega); omega)
    have q1 : rs (fun u => rs (gtr e.2.2.1 e.1 u) 0 e.1) 0 e.1 = rs (fun u => rs (fun v => rs (tri e.2.2.1 u v) (v + 1) 8) (u + 1) 8) 0 e.1 := rs_congr (fun u u1 u2 => by
      show rs (gtr e.2.2.1 e.1 u) 0 e.1 = rs (fun v => rs (tri e.2.2.1 u v) (v + 1) 8) (u + 1) 8
      rw [rs_tail (f := fun v => rs (tri e.2.2.1 u v) (v + 1) 8) (m := e.1) (b := 8) (by omega) (by omega) (fun k k1 k2 => z1 u k (Or.inr k1))]
      refine (rs_from (f := fun v => rs (tri e.2.2.1 u v) (v + 1) e.1) (a := u + 1) (by omega)).trans (rs_congr (fun v v1 v2 => ?_))
      exact (rs_tail (f := tri e.2.2.1 u v) (b := 8) (by omega) (by omega) (fun w w1 w2 => by
        unfold tri
        rw [if_neg (fun q => by have := hV.z2 (u := u) (v := w) (by omega); omega)])).symm)
    have q2 : rs (fun u => rs (fun v => rs (tri e.2.2.1 u v) (v + 1) 8) (u + 1) 8) 0 8 = rs (fun u => rs (fun v => rs (tri e.2.2.1 u v) (v + 1) 8) (u + 1) 8) 0 e.1 := rs_tail (by omega) (by omega) (fun k k1 k2 => rs_zero (fun j _ _ => z1 k j (Or.inl k1)))
    exact q1.trans q2.symm
  rw [t1, t2, t3] at key
  rw [s0]
  exact key
end QUE
