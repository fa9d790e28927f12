/-! REALISE with loops -/
theorem dv2_all : ∀ k : Nat, k < 300 → idv (k : Int) 2 = ((k / 2 : Nat) : Int) ∧ irm (k : Int) 2 = ((k % 2 : Nat) : Int) := by decide +kernel
theorem dv2 {k : Int} (h : 0 ≤ k ∧ k < 300) : idv k 2 = k / 2 ∧ irm k 2 = k % 2 := by
  have := dv2_all k.toNat (by omega)
  rw [show ((k.toNat : Nat) : Int) = k by omega] at this
  rw [this.1, this.2]
  omega
/-- loops, and the odd ones joined two by two -/
def b0 (l : Int → Int) : Nat → Int × (Int → Int → Int)
  | 0 => (-1, fun _ _ => 0)
  | i + 1 => if l (i : Int) % 2 = 0 then ((b0 l i).1, addc (b0 l i).2 i i (l (i : Int) / 2)) else if (b0 l i).1 = -1 then ((i : Int), addc (b0 l i).2 i i (l (i : Int) / 2)) else (-1, addc (addc (b0 l i).2 i i (l (i : Int) / 2)) (b0 l i).1 i 1)
theorem addc_nn {c : Int → Int → Int} (h : ∀ u v, 0 ≤ c u v) {a b k : Int} (hk : 0 ≤ k) : ∀ u v, 0 ≤ addc c a b k u v := fun u v => by
  have := h u v
  rw [addc_pl]
  split <;> omega
theorem addc_up {c : Int → Int → Int} {B : Int} (h : ∀ u v, c u v ≤ B) {a b k K : Int} (hk : k ≤ K) (hK : 0 ≤ K) : ∀ u v, addc c a b k u v ≤ B + K := fun u v => by
  have := h u v
  rw [addc_pl]
  split <;> omega
theorem addc_sp {c : Int → Int → Int} {N : Int} (h : ∀ u v, c u v ≠ 0 → (0 ≤ u ∧ u < N) ∧ (0 ≤ v ∧ v < N)) {a b k : Int} (ha : 0 ≤ a ∧ a < N) (hb : 0 ≤ b ∧ b < N) : ∀ u v, addc c a b k u v ≠ 0 → (0 ≤ u ∧ u < N) ∧ (0 ≤ v ∧ v < N) := fun u v q => by
  rw [addc_pl] at q
  by_cases q1 : (u = a ∧ v = b) ∨ (u = b ∧ v = a)
  · rcases q1 with ⟨rfl, rfl⟩ | ⟨rfl, rfl⟩
    · exact ⟨ha, hb⟩
    · exact ⟨hb, ha⟩
  · rw [if_neg q1, Int.add_zero] at q
    exact h u v q
def B0 (l : Int → Int) (i : Nat) : Prop := ((b0 l i).1 = -1 ∨ (0 ≤ (b0 l i).1 ∧ (b0 l i).1 < (i : Int))) ∧ (∀ u v, 0 ≤ (b0 l i).2 u v) ∧ (∀ u v, (b0 l i).2 u v ≤ 80 * (i : Int)) ∧ (∀ u v, (b0 l i).2 u v = (b0 l i).2 v u) ∧ (∀ u v, (b0 l i).2 u v ≠ 0 → (0 ≤ u ∧ u < (i : Int)) ∧ (0 ≤ v ∧ v < (i : Int))) ∧ 2 * Ed (b0 l i).2 + (if (b0 l i).1 = -1 then 0 else 1) = rs l 0 (i : Int)
theorem b0_ok {l : Int → Int} (hl : ∀ i, 0 ≤ l i ∧ l i ≤ 150) : ∀ i : Nat, i ≤ 8 → B0 l i
  | 0, _ => ⟨Or.inl rfl, fun _ _ => Int.le_refl _, fun _ _ => Int.le_refl _, fun _ _ => rfl, fun _ _ q => absurd rfl q, rfl⟩
  | i + 1, hi => by
    obtain ⟨h1, h2, h3, h4, h5, h6⟩ := b0_ok hl i (by omega)
    have hk := hl (i : Int)
    have hr : rs l 0 ((i : Int) + 1) = rs l 0 (i : Int) + l (i : Int) := rs_last (by omega)
    have hE : Ed (addc (b0 l i).2 i i (l (i : Int) / 2)) = Ed (b0 l i).2 + l (i : Int) / 2 := Ed_addc (by omega) (by omega)
    have g2 := addc_nn h2 (a := (i : Int)) (b := (i : Int)) (k := l (i : Int) / 2) (by omega)
    have g3 := addc_up h3 (a := (i : Int)) (b := (i : Int)) (k := l (i : Int) / 2) (K := 75) (by omega) (by omega)
    have g4 := addc_sy h4 (i : Int) (i : Int) (l (i : Int) / 2)
    have g5 : ∀ u v, addc (b0 l i).2 i i (l (i : Int) / 2) u v ≠ 0 → (0 ≤ u ∧ u < (i : Int) + 1) ∧ (0 ≤ v ∧ v < (i : Int) + 1) := addc_sp (fun u v q => by have := h5 u v q; omega) (by omega) (by omega)
    unfold B0
    rw [show ((i + 1 : Nat) : Int) = (i : Int) + 1 by omega, hr]
    by_cases c1 : l (i : Int) % 2 = 0
    · have e : b0 l (i + 1) = ((b0 l i).1, addc (b0 l i).2 i i (l (i : Int) / 2)) := if_pos c1
      rw [e]
      refine ⟨by dsimp only; omega, g2, fun u v => ?_, fun u v => g4 u v, g5, ?_⟩
      · have := g3 u v
        dsimp only
        omega
      · dsimp only
        rw [hE]
        omega
    · by_cases c2 : (b0 l i).1 = -1
      · have e : b0 l (i + 1) = ((i : Int), addc (b0 l i).2 i i (l (i : Int) / 2)) := (if_neg c1).trans (if_pos c2)
        rw [if_pos c2] at h6
        rw [e]
        refine ⟨by dsimp only; omega, g2, fun u v => ?_, fun u v => g4 u v, g5, ?_⟩
        · have := g3 u v
          dsimp only
          omega
        · dsimp only
          rw [hE, if_neg (by omega)]
          omega
      · have e : b0 l (i + 1) = (-1, addc (addc (b0 l i).2 i i (l (i : Int) / 2)) (b0 l i).1 i 1) := (if_neg c1).trans (if_neg c2)
        rw [if_neg c2] at h6
        rw [e]
        have hE2 : Ed (addc (addc (b0 l i).2 i i (l (i : Int) / 2)) (b0 l i).1 i 1) = Ed (addc (b0 l i).2 i i (l (i : Int) / 2)) + 1 := Ed_addc (by omega) (by omega)
        refine ⟨Or.inl rfl, addc_nn g2 (by omega), fun u v => ?_, fun u v => addc_sy g4 _ _ _ u v, addc_sp g5 (by omega) (by omega), ?_⟩
        · have := addc_up g3 (a := (b0 l i).1) (b := (i : Int)) (k := 1) (K := 1) (by omega) (by omega) u v
          dsimp only
          omega
        · dsimp only
          rw [hE2, hE, if_pos rfl]
          omega
theorem B0.bd {l : Int → Int} {i : Nat} (h : B0 l i) (hi : i ≤ 8) (hl : ∀ i, 0 ≤ l i ∧ l i ≤ 150) : Bd (b0 l i).2 ∧ (-90000 ≤ Ed (b0 l i).2 ∧ Ed (b0 l i).2 ≤ 90000) := by
  refine ⟨fun u v => ?_, ?_⟩
  · have h1 := h.2.1 u v
    have h2 := h.2.2.1 u v
    omega
  · have h1 := h.2.2.2.2.2
    have h2 : rs l 0 (i : Int) ≤ rs (fun _ => 150) 0 (i : Int) := rs_le (fun k _ _ => (hl k).2)
    have h3 : rs (fun _ => (150 : Int)) 0 (i : Int) ≤ rs (fun _ => 150) 0 8 := by
      rw [rs_cut (f := fun _ => (150 : Int)) (by omega : (0 : Int) ≤ (i : Int)) (by omega : (i : Int) ≤ 8)]
      have : 0 ≤ rs (fun _ => (150 : Int)) (i : Int) 8 := rs_nn (fun _ _ _ => by omega)
      omega
    have h4 : rs (fun _ => (150 : Int)) 0 8 = 1200 := rfl
    have h5 : 0 ≤ rs l 0 (i : Int) := rs_nn (fun k _ _ => (hl k).1)
    split at h1 <;> omega
/-- a graph of an even sum of degrees -/
theorem B0.vd {l : Int → Int} {N : Nat} (h : B0 l N) (hN : 1 ≤ N ∧ N ≤ 8) (he : rs l 0 (N : Int) % 2 = 0) (hs : rs l 0 (N : Int) ≤ 32) : Vd (N : Int) (b0 l N).2 := by
  obtain ⟨h1, h2, h3, h4, h5, h6⟩ := h
  refine ⟨by omega, h2, h4, h5, ?_⟩
  split at h6 <;> omega
section LOO
variable {μ : qMu} {n q g : Nat} {N : Nat} {m : Int} {l : Int → Int} {c t : Int → Int → Int}
theorem x_withLoops (hn : 5000 ≤ n) (hN : N ≤ 8) (hl : ∀ i, 0 ≤ l i ∧ l i ≤ 150) (h : GY μ g N (fun _ _ => 0)) (h0 : rd μ q 3 = (N : Int)) (h1 : ∀ i, 0 ≤ i → i < (N : Int) → rd μ (q + 3) i = l i) (hg : g ≠ q ∧ g + 1 ≠ q ∧ g ≠ q + 3 ∧ g + 1 ≠ q + 3) : ∃ μ', fX6_buildWithLoops n q g μ = some μ' ∧ GY μ' g N (b0 l N).2 ∧ Fr [g, g + 1] μ μ' := by
  obtain ⟨y, r1, r2, r3⟩ := lp_inv (f := fun x : Int × Int × qMu => bX6_buildWithLoops_4 n q g x.1 x.2.1 x.2.2) (fun k x => ∃ i : Nat, i + k = N ∧ x.2.1 = (i : Int) ∧ x.1 = (b0 l i).1 ∧ GY x.2.2 g N (b0 l i).2 ∧ Fr [g, g + 1] μ x.2.2) (fun y => GY y g N (b0 l N).2 ∧ Fr [g, g + 1] μ y) (by
    rintro k ⟨z, v, ξ⟩ ⟨i, h4, h5, h6, h7, h8⟩
    dsimp only at h5 h6 h7 h8
    subst h5 h6
    have e0 : rd ξ q 3 = (N : Int) := by
      rw [rd_cg (h8 q (by simp; omega))]
      exact h0
    by_cases hi : i < N
    · right
      have hB := b0_ok hl i (by omega)
      obtain ⟨hb1, hb2⟩ := hB.bd (by omega) hl
      have hz := hB.1
      have hk := hl (i : Int)
      obtain ⟨d1, d2⟩ := dv2 (k := l (i : Int)) (by omega)
      have e1 : ∀ ζ, Fr [g, g + 1] ξ ζ → rd ζ (q + 3) (i : Int) = l (i : Int) := fun ζ hζ => by
        rw [rd_cg (hζ (q + 3) (by simp; omega)), rd_cg (h8 (q + 3) (by simp; omega))]
        exact h1 _ (by omega) (by omega)
      obtain ⟨ξ1, p1, p2, p3⟩ := x_put h7 hb1 (by omega) (u := (i : Int)) (v := (i : Int)) (k := l (i : Int) / 2) (by omega) (by omega) (by omega)
      have e2 := e1 ξ (Fr.rf _ _)
      have e3 := e1 ξ1 p3
      by_cases c1 : l (i : Int) % 2 = 0
      · have e : b0 l (i + 1) = ((b0 l i).1, addc (b0 l i).2 i i (l (i : Int) / 2)) := if_pos c1
        refine ⟨k - 1, ((b0 l (i + 1)).1, (i : Int) + 1, ξ1), ?_, by omega, i + 1, by omega, by dsimp only; omega, rfl, by rw [e]; exact p2, h8.tr p3⟩
        rw [e]
        rw [c1] at d2
        simp (disch := omega) only [bX6_buildWithLoops_4, e0, wr_id, if_pos, qLd_in, e2, d1, d2, p1, e3, Option.bind_some, ite_true]
      · have c1' : l (i : Int) % 2 = 1 := by omega
        rw [c1'] at d2
        by_cases c2 : (b0 l i).1 = -1
        · have e : b0 l (i + 1) = ((i : Int), addc (b0 l i).2 i i (l (i : Int) / 2)) := (if_neg c1).trans (if_pos c2)
          refine ⟨k - 1, ((b0 l (i + 1)).1, (i : Int) + 1, ξ1), ?_, by omega, i + 1, by omega, by dsimp only; omega, rfl, by rw [e]; exact p2, h8.tr p3⟩
          rw [e, c2]
          simp (disch := omega) only [bX6_buildWithLoops_4, e0, wr_id, if_pos, if_neg, qLd_in, e2, d1, d2, p1, e3, Option.bind_some, ite_true]
        · have e : b0 l (i + 1) = (-1, addc (addc (b0 l i).2 i i (l (i : Int) / 2)) (b0 l i).1 i 1) := (if_neg c1).trans (if_neg c2)
          have hE : Ed (addc (b0 l i).2 i i (l (i : Int) / 2)) = Ed (b0 l i).2 + l (i : Int) / 2 := Ed_addc (by omega) (by omega)
          have hb3 : Bd (addc (b0 l i).2 i i (l (i : Int) / 2)) := fun u v => by
            have q1 := addc_up hB.2.2.1 (a := (i : Int)) (b := (i : Int)) (k := l (i : Int) / 2) (K := 75) (by omega) (by omega) u v
            have q2 := addc_nn hB.2.1 (a := (i : Int)) (b := (i : Int)) (k := l (i : Int) / 2) (by omega) u v
            omega
          obtain ⟨ξ2, s1, s2, s3⟩ := x_put p2 hb3 (by omega) (u := (b0 l i).1) (v := (i : Int)) (k := 1) (by omega) (by omega) (by omega)
          refine ⟨k - 1, ((b0 l (i + 1)).1, (i : Int) + 1, ξ2), ?_, by omega, i + 1, by omega, by dsimp only; omega, rfl, by rw [e]; exact s2, (h8.tr p3).tr s3⟩
          rw [e]
          simp (disch := omega) only [bX6_buildWithLoops_4, e0, wr_id, if_pos, if_neg, qLd_in, e2, d1, d2, p1, e3, Option.bind_some, s1]
    · left
      have hiN : i = N := by omega
      subst hiN
      refine ⟨ξ, ?_, h7, h8⟩
      simp (disch := omega) only [bX6_buildWithLoops_4, e0, wr_id, if_neg]) n N (-1, 0, μ) ⟨0, Nat.zero_add _, rfl, rfl, h, Fr.rf _ _⟩ (by omega)
  refine ⟨y, ?_, r2, r3⟩
  simp only [fX6_buildWithLoops, r1, Option.bind_some]
end LOO
