/-! THE HISTORY: a ring there, a shifted row here -/
/-- a state of the game: vertices, mode, graph, target -/
def qEn : Type := Int × Int × (Int → Int → Int) × (Int → Int → Int)
def EV (e : qEn) : Prop := Vd e.1 e.2.2.1 ∧ Vd e.1 e.2.2.2 ∧ 0 ≤ e.2.1 ∧ e.2.1 ≤ 2
/-- as the class has it -/
def CX (μ : qMu) (e : qEn) : Prop := GY μ 11 e.1 e.2.2.1 ∧ GY μ 13 e.1 e.2.2.2 ∧ rd μ 0 11 = e.2.1
def BK (μ : qMu) (A : Nat) (o : Int) (e : qEn) : Prop := rd μ A o = e.1 ∧ rd μ A (o + 1) = e.2.1 ∧ (∀ u v, (0 ≤ u ∧ u < 8) → (0 ≤ v ∧ v < 8) → rd μ A (o + 2 + 8 * u + v) = e.2.2.1 u v) ∧ ∀ u v, (0 ≤ u ∧ u < 8) → (0 ≤ v ∧ v < 8) → rd μ A (o + 66 + 8 * u + v) = e.2.2.2 u v
/-- as the reference has it -/
def CM (μ : qMu) (e : qEn) : Prop := SM μ e.1 e.2.1 e.2.2.1 e.2.2.2
theorem BK.to {μ μ' : qMu} {A A' : Nat} {o o' : Int} {e : qEn} (h : BK μ A o e) (h1 : ∀ i, 0 ≤ i → i < 130 → rd μ' A' (o' + i) = rd μ A (o + i)) : BK μ' A' o' e := by
  refine ⟨?_, (h1 1 (by omega) (by omega)).trans h.2.1, fun u v hu hv => ?_, fun u v hu hv => ?_⟩
  · have := h1 0 (by omega) (by omega)
    rw [Int.add_zero, Int.add_zero] at this
    rw [this]
    exact h.1
  · have := h1 (2 + 8 * u + v) (by omega) (by omega)
    rw [show o' + 2 + 8 * u + v = o' + (2 + 8 * u + v) by omega, this, show o + (2 + 8 * u + v) = o + 2 + 8 * u + v by omega]
    exact h.2.2.1 u v hu hv
  · have := h1 (66 + 8 * u + v) (by omega) (by omega)
    rw [show o' + 66 + 8 * u + v = o' + (66 + 8 * u + v) by omega, this, show o + (66 + 8 * u + v) = o + 66 + 8 * u + v by omega]
    exact h.2.2.2 u v hu hv
theorem CM.bk {μ : qMu} {e : qEn} (h : CM μ e) : BK μ 79 0 e := by
  refine ⟨h.1, h.2.1, fun u v hu hv => ?_, fun u v hu hv => ?_⟩
  · rw [show 0 + 2 + 8 * u + v = 2 + 8 * u + v by omega]
    exact h.2.2.1 u v hu hv
  · rw [show 0 + 66 + 8 * u + v = 66 + 8 * u + v by omega]
    exact h.2.2.2 u v hu hv
theorem BK.cm {μ : qMu} {e : qEn} (h : BK μ 79 0 e) : CM μ e := by
  refine ⟨h.1, h.2.1, fun u v hu hv => ?_, fun u v hu hv => ?_⟩
  · have := h.2.2.1 u v hu hv
    rw [show 0 + 2 + 8 * u + v = 2 + 8 * u + v by omega] at this
    exact this
  · have := h.2.2.2 u v hu hv
    rw [show 0 + 66 + 8 * u + v = 66 + 8 * u + v by omega] at this
    exact this
theorem CX.kp {μ μ' : qMu} {e : qEn} (h : CX μ e) (h0 : rd μ' 0 11 = rd μ 0 11) (h1 : μ' 11 = μ 11) (h2 : μ' 12 = μ 12) (h3 : μ' 13 = μ 13) (h4 : μ' 14 = μ 14) : CX μ' e := ⟨h.1.kp h1 h2, h.2.1.kp h3 h4, h0.trans h.2.2⟩
theorem CM.kp {μ μ' : qMu} {e : qEn} (h : CM μ e) (h1 : μ' 79 = μ 79) : CM μ' e := SM.kp h h1
def slt (p h j : Nat) : Nat := (p + 10 - h + j) % 10
def HX (μ : qMu) (p h : Nat) (E : Nat → qEn) : Prop := (p < 10 ∧ h ≤ 10) ∧ rd μ 32 3 = (h : Int) ∧ rd μ 32 4 = (p : Int) ∧ ∀ j, j < h → GY μ (36 + 4 * slt p h j) (E j).1 (E j).2.2.1 ∧ GY μ (38 + 4 * slt p h j) (E j).1 (E j).2.2.2 ∧ rd μ 35 (slt p h j : Int) = (E j).2.1
def HM (μ : qMu) (h : Nat) (E : Nat → qEn) : Prop := h ≤ 10 ∧ rd μ 78 3 = (h : Int) ∧ ∀ j, j < h → BK μ 81 (130 * (j : Int)) (E j)
def push (E : Nat → qEn) (h : Nat) (e : qEn) : Nat → qEn := fun j => if h < 10 then (if j = h then e else E j) else (if j = 9 then e else E (j + 1))
theorem HX.kp {μ μ' : qMu} {p h : Nat} {E : Nat → qEn} (H : HX μ p h E) (h0 : μ' 32 = μ 32) (h1 : ∀ a, 35 ≤ a → a ≤ 75 → μ' a = μ a) : HX μ' p h E := by
  refine ⟨H.1, (rd_cg h0 3).trans H.2.1, (rd_cg h0 4).trans H.2.2.1, fun j hj => ?_⟩
  obtain ⟨q1, q2, q3⟩ := H.2.2.2 j hj
  have hs : slt p h j < 10 := Nat.mod_lt _ (by omega)
  exact ⟨q1.kp (h1 _ (by omega) (by omega)) (h1 _ (by omega) (by omega)), q2.kp (h1 _ (by omega) (by omega)) (h1 _ (by omega) (by omega)), (rd_cg (h1 35 (by omega) (by omega)) _).trans q3⟩
theorem HM.kp {μ μ' : qMu} {h : Nat} {E : Nat → qEn} (H : HM μ h E) (h0 : rd μ' 78 3 = rd μ 78 3) (h1 : μ' 81 = μ 81) : HM μ' h E := ⟨H.1, h0.trans H.2.1, fun j hj => (H.2.2 j hj).to (fun i _ _ => rd_cg h1 _)⟩
theorem qLa33 : ∀ p : Nat, p < 10 → qLa qR33 (p : Int) = some (36 + 4 * p) := by decide
theorem qLa34 : ∀ p : Nat, p < 10 → qLa qR34 (p : Int) = some (38 + 4 * p) := by decide
theorem EV.bd {e : qEn} (h : EV e) : (-100000 ≤ Ed e.2.2.1 ∧ Ed e.2.2.1 ≤ 100000) ∧ (-100000 ≤ Ed e.2.2.2 ∧ Ed e.2.2.2 ≤ 100000) ∧ (0 ≤ e.1 ∧ e.1 ≤ 8) := by
  have h1 := h.1.e0
  have h2 := h.1.2.2.2.2
  have h3 := h.2.1.e0
  have h4 := h.2.1.2.2.2.2
  have h5 := h.1.N
  omega
section HIS
variable {μ : qMu} {n : Nat} {e : qEn} {E : Nat → qEn} {p h : Nat}
theorem x_remember (hn : 5000 ≤ n) (hC : CX μ e) (hE : EV e) (H : HX μ p h E) : ∃ μ', fX9_remember n μ = some μ' ∧ HX μ' ((p + 1) % 10) (min (h + 1) 10) (push E h e) ∧ ∀ a, a ≠ 32 → (a < 35 ∨ 75 < a) → μ' a = μ a := by
  obtain ⟨⟨hp, hh⟩, H1, H2, H3⟩ := H
  obtain ⟨b1, b2, b3⟩ := hE.bd
  obtain ⟨μ1, p1, p2, p3⟩ := x_become (g := 36 + 4 * p) (o := 11) hn hC.1 hE.1.bd (by omega) (by omega) (by omega) b1 b3
  have k1 : ∀ a, a ≠ 36 + 4 * p → a ≠ 36 + 4 * p + 1 → μ1 a = μ a := fun a a1 a2 => p3 a (by simp; omega)
  obtain ⟨μ2, q1, q2, q3⟩ := x_become (g := 38 + 4 * p) (o := 13) hn (hC.2.1.kp (k1 13 (by omega) (by omega)) (k1 14 (by omega) (by omega))) hE.2.1.bd (by omega) (by omega) (by omega) b2 b3
  have k2 : ∀ a, a ≠ 38 + 4 * p → a ≠ 38 + 4 * p + 1 → μ2 a = μ1 a := fun a a1 a2 => q3 a (by simp; omega)
  have k12 : ∀ a, (a < 36 + 4 * p ∨ 39 + 4 * p < a) → μ2 a = μ a := fun a ha => (k2 a (by omega) (by omega)).trans (k1 a (by omega) (by omega))
  have e1 : rd μ1 32 4 = (p : Int) := (rd_cg (k1 32 (by omega) (by omega)) 4).trans H2
  have e2 : rd μ2 32 4 = (p : Int) := (rd_cg (k12 32 (by omega)) 4).trans H2
  have e3 : rd μ2 32 3 = (h : Int) := (rd_cg (k12 32 (by omega)) 3).trans H1
  have em : mn ((h : Int) + 1) 10 = ((min (h + 1) 10 : Nat) : Int) := by
    rw [mn_id (by omega) (by omega)]
    split <;> omega
  have ep : (if (p : Int) + 1 < 10 then (p : Int) + 1 else 0) = (((p + 1) % 10 : Nat) : Int) := by
    split <;> omega
  refine ⟨up (up (up μ2 35 (p : Int) e.2.1) 32 4 (((p + 1) % 10 : Nat) : Int)) 32 3 ((min (h + 1) 10 : Nat) : Int), ?_, ⟨⟨by omega, by omega⟩, ?_, ?_, fun j hj => ?_⟩, fun a a1 a2 => ?_⟩
  · have r1 : rd (up μ2 35 (p : Int) e.2.1) 32 4 = (p : Int) := by
      rw [rd_na (by decide)]
      exact e2
    have r2 : rd (up (up μ2 35 (p : Int) e.2.1) 32 4 (((p + 1) % 10 : Nat) : Int)) 32 3 = (h : Int) := by
      rw [rd_ni (by decide), rd_na (by decide)]
      exact e3
    have w : wr ((p : Int) + 1) = (p : Int) + 1 := wr_id (by omega) (by omega)
    have w10 : wr 10 = 10 := rfl
    simp only [fX9_remember, fX2_remember, H2, qLa33 p hp, Option.bind_some, hC.2.2, p1, e1, qLa34 p hp, q1, e2, qSa_in (show 0 ≤ (p : Int) ∧ (p : Int) < ((10 : Nat) : Int) by omega), qPf_eq, r1, w, w10, ep, r2, em]
  · rw [rd_at]
    exact wr_id (by omega) (by omega)
  · rw [rd_ni (by decide), rd_at]
    exact wr_id (by omega) (by omega)
  · have kU : ∀ a, a ≠ 35 → a ≠ 32 → (up (up (up μ2 35 (p : Int) e.2.1) 32 4 (((p + 1) % 10 : Nat) : Int)) 32 3 ((min (h + 1) 10 : Nat) : Int)) a = μ2 a := fun a a1 a2 => ((up_ne a2).trans (up_ne a2)).trans (up_ne a1)
    have e35 : ∀ i, rd (up (up (up μ2 35 (p : Int) e.2.1) 32 4 (((p + 1) % 10 : Nat) : Int)) 32 3 ((min (h + 1) 10 : Nat) : Int)) 35 i = rd (up μ2 35 (p : Int) e.2.1) 35 i := fun i => by rw [rd_na (by decide), rd_na (by decide)]
    have new : slt ((p + 1) % 10) (min (h + 1) 10) j = p → push E h e j = e → GY (up (up (up μ2 35 (p : Int) e.2.1) 32 4 (((p + 1) % 10 : Nat) : Int)) 32 3 ((min (h + 1) 10 : Nat) : Int)) (36 + 4 * slt ((p + 1) % 10) (min (h + 1) 10) j) (push E h e j).1 (push E h e j).2.2.1 ∧ GY (up (up (up μ2 35 (p : Int) e.2.1) 32 4 (((p + 1) % 10 : Nat) : Int)) 32 3 ((min (h + 1) 10 : Nat) : Int)) (38 + 4 * slt ((p + 1) % 10) (min (h + 1) 10) j) (push E h e j).1 (push E h e j).2.2.2 ∧ rd (up (up (up μ2 35 (p : Int) e.2.1) 32 4 (((p + 1) % 10 : Nat) : Int)) 32 3 ((min (h + 1) 10 : Nat) : Int)) 35 (slt ((p + 1) % 10) (min (h + 1) 10) j : Int) = (push E h e j).2.1 := by
      intro s1 s2
      rw [s1, s2]
      refine ⟨(p2.kp (k2 _ (by omega) (by omega)) (k2 _ (by omega) (by omega))).kp (kU _ (by omega) (by omega)) (kU _ (by omega) (by omega)), q2.kp (kU _ (by omega) (by omega)) (kU _ (by omega) (by omega)), ?_⟩
      rw [e35, rd_at]
      have := hE.2.2
      exact wr_id (by omega) (by omega)
    have old : ∀ j', j' < h → slt ((p + 1) % 10) (min (h + 1) 10) j = slt p h j' → slt p h j' ≠ p → push E h e j = E j' → GY (up (up (up μ2 35 (p : Int) e.2.1) 32 4 (((p + 1) % 10 : Nat) : Int)) 32 3 ((min (h + 1) 10 : Nat) : Int)) (36 + 4 * slt ((p + 1) % 10) (min (h + 1) 10) j) (push E h e j).1 (push E h e j).2.2.1 ∧ GY (up (up (up μ2 35 (p : Int) e.2.1) 32 4 (((p + 1) % 10 : Nat) : Int)) 32 3 ((min (h + 1) 10 : Nat) : Int)) (38 + 4 * slt ((p + 1) % 10) (min (h + 1) 10) j) (push E h e j).1 (push E h e j).2.2.2 ∧ rd (up (up (up μ2 35 (p : Int) e.2.1) 32 4 (((p + 1) % 10 : Nat) : Int)) 32 3 ((min (h + 1) 10 : Nat) : Int)) 35 (slt ((p + 1) % 10) (min (h + 1) 10) j : Int) = (push E h e j).2.1 := by
      intro j' hj' s1 s3 s2
      obtain ⟨o1, o2, o3⟩ := H3 j' hj'
      rw [s1, s2]
      refine ⟨(o1.kp (k12 _ (by omega)) (k12 _ (by omega))).kp (kU _ (by omega) (by omega)) (kU _ (by omega) (by omega)), (o2.kp (k12 _ (by omega)) (k12 _ (by omega))).kp (kU _ (by omega) (by omega)) (kU _ (by omega) (by omega)), ?_⟩
      rw [e35, rd_ni (by omega), rd_cg (k12 35 (by omega))]
      exact o3
    by_cases h10 : h < 10
    · by_cases hjh : j = h
      · refine new ?_ ?_
        · unfold slt
          omega
        · unfold push
          rw [if_pos h10, if_pos hjh]
      · refine old j (by omega) ?_ ?_ ?_
        · unfold slt
          omega
        · unfold slt
          omega
        · unfold push
          rw [if_pos h10, if_neg hjh]
    · by_cases hjh : j = 9
      · refine new ?_ ?_
        · unfold slt
          omega
        · unfold push
          rw [if_neg h10, if_pos hjh]
      · refine old (j + 1) (by omega) ?_ ?_ ?_
        · unfold slt
          omega
        · unfold slt
          omega
        · unfold push
          rw [if_neg h10, if_neg hjh]
  · exact (((up_ne a1).trans (up_ne a1)).trans (up_ne (by omega))).trans (k12 a (by omega))
theorem push_EV (hE : EV e) (h : Nat) (H : ∀ j, j < h → EV (E j)) (hh : h ≤ 10) : ∀ j, j < min (h + 1) 10 → EV (push E h e j) := by
  intro j hj
  unfold push
  split
  · split
    · exact hE
    · exact H j (by omega)
  · split
    · exact hE
    · exact H (j + 1) (by omega)
end HIS
