/-! THE HISTORY: a ring there, a shifted row here -/
/-- a state of the game: vertices, mode, graph, target -/
def qEn : Type := Int × Int × (Int → Int → Int) × (Int → Int → Int)
def EV (e : qEn) : Prop := Vd e.1 e.2.2.1 ∧ Vd e.1 e.2.2.2 ∧ 0 ≤ e.2.1 ∧ e.2.1 ≤ 2
/-- as the class has it -/
def CX (μ : qMu) (e : qEn) : Prop := GY μ 11 e.1 e.2.2.1 ∧ GY μ 13 e.1 e.2.2.2 ∧ rd μ 0 11 = e.2.1
def BK (μ : qMu) (A : Nat) (o : Int) (e : qEn) : Prop := rd μ A o = e.1 ∧ rd μ A (o + 1) = e.2.1 ∧ (∀ u v, (0 ≤ u ∧ u < 8) → (0 ≤ v ∧ v < 8) → rd μ A (o + 2 + 8 * u + v) = e.2.2.1 u v) ∧ ∀ u v, (0 ≤ u ∧ u < 8) → (0 ≤ v ∧ v < 8) → rd μ A (o + 66 + 8 * u + v) = e.2.2.2 u v
/-- as the reference has it -/
def CM (μ : qMu) (e : qEn) : Prop := SM μ e.1 e.2.1 e.2.2.1 e.2.2.2
theorem BK.to {μ μ' : qMu} {A A' : Nat} {o o' : Int} {e : qEn} (h : BK μ A o e) (h1 : ∀ i, 0 ≤ i → i < 130 → rd μ' A' (o' + i) = rd μ A (o + i)) : BK μ' A' o' e := by
  refine ⟨?_, (h1 1 (by omega) (by omega)).trans h.2.1, fun u v hu hv => ?_, fun u v hu hv => ?_⟩
  · have := h1 0 (by omega) (by omega)
    rw [Int.add_zero, Int.add_zero] at this
    rw [this]
    exact h.1
  · have := h1 (2 + 8 * u + v) (by omega) (by omega)
    rw [show o' + 2 + 8 * u + v = o' + (2 + 8 * u + v) by omega, this, show o + (2 + 8 * u + v) = o + 2 + 8 * u + v by omega]
    exact h.2.2.1 u v hu hv
  · have := h1 (66 + 8 * u + v) (by omega) (by omega)
    rw [show o' + 66 + 8 * u + v = o' + (66 + 8 * u + v) by omega, this, show o + (66 + 8 * u + v) = o + 66 + 8 * u + v by omega]
    exact h.2.2.2 u v hu hv
theorem CM.bk {μ : qMu} {e : qEn} (h : CM μ e) : BK μ 79 0 e := by
  refine ⟨h.1, h.2.1, fun u v hu hv => ?_, fun u v hu hv => ?_⟩
  · rw [show 0 + 2 + 8 * u + v = 2 + 8 * u + v by omega]
    exact h.2.2.1 u v hu hv
  · rw [show 0 + 66 + 8 * u + v = 66 + 8 * u + v by omega]
    exact h.2.2.2 u v hu hv
theorem BK.cm {μ : qMu} {e : qEn} (h : BK μ 79 0 e) : CM μ e := by
  refine ⟨h.1, h.2.1, fun u v hu hv => ?_, fun u v hu hv => ?_⟩
  · have := h.2.2.1 u v hu hv
    rw [show 0 + 2 + 8 * u + v = 2 + 8 * u + v by omega] at this
    exact this
  · have := h.2.2.2 u v hu hv
    rw [show 0 + 66 + 8 * u + v = 66 + 8 * u + v by omega] at this
    exact this
theorem CX.kp {μ μ' : qMu} {e : qEn} (h : CX μ e) (h0 : rd μ' 0 11 = rd μ 0 11) (h1 : μ' 11 = μ 11) (h2 : μ' 12 = μ 12) (h3 : μ' 13 = μ 13) (h4 : μ' 14 = μ 14) : CX μ' e := ⟨h.1.kp h1 h2, h.2.1.kp h3 h4, h0.trans h.2.2⟩
theorem CM.kp {μ μ' : qMu} {e : qEn} (h : CM μ e) (h1 : μ' 79 = μ 79) : CM μ' e := SM.kp h h1
def slt (p h j : Nat) : Nat := (p + 10 - h + j) % 10
def HX (μ : qMu) (p h : Nat) (E : Nat → qEn) : Prop := (p < 10 ∧ h ≤ 10) ∧ rd μ 32 3 = (h : Int) ∧ rd μ 32 4 = (p : Int) ∧ ∀ j, j < h → GY μ (36 + 4 * slt p h j) (E j).1 (E j).2.2.1 ∧ GY μ (38 + 4 * slt p h j) (E j).1 (E j).2.2.2 ∧ rd μ 35 (slt p h j : Int) = (E j).2.1
def HM (μ : qMu) (h : Nat) (E : Nat → qEn) : Prop := h ≤ 10 ∧ rd μ 78 3 = (h : Int) ∧ ∀ j, j < h → BK μ 81 (130 * (j : Int)) (E j)
def push (E : Nat → qEn) (h : Nat) (e : qEn) : Nat → qEn := fun j => if h < 10 then (if j = h then e else E j) else (if j = 9 then e else E (j + 1))
theorem HX.kp {μ μ' : qMu} {p h : Nat} {E : Nat → qEn} (H : HX μ p h E) (h0 : μ' 32 = μ 32) (h1 : ∀ a, 35 ≤ a → a ≤ 75 → μ' a = μ a) : HX μ' p h E := by
  refine ⟨H.1, (rd_cg h0 3).trans H.2.1, (rd_cg h0 4).trans H.2.2.1, fun j hj => ?_⟩
  obtain ⟨q1, q2, q3⟩ := H.2.2.2 j hj
  have hs : slt p h j < 10 := Nat.mod_lt _ (by omega)
  exact ⟨q1.kp (h1 _ (by omega) (by omega)) (h1 _ (by omega) (by omega)), q2.kp (h1 _ (by omega) (by omega)) (h1 _ (by omega) (by omega)), (rd_cg (h1 35 (by omega) (by omega)) _).trans q3⟩
theorem HM.kp {μ μ' : qMu} {h : Nat} {E : Nat → qEn} (H : HM μ h E) (h0 : rd μ' 78 3 = rd μ 78 3) (h1 : μ' 81 = μ 81) : HM μ' h E := ⟨H.1, h0.trans H.2.1, fun j hj => (H.2.2 j hj).to (fun i _ _ => rd_cg h1 _)⟩
theorem qLa33 : ∀ p : Nat, p < 10 → qLa qR33 (p : Int) = some (36 + 4 * p) := by decide
theorem qLa34 : ∀ p : Nat, p < 10 → qLa qR34 (p : Int) = some (38 + 4 * p) := by decide
theorem EV.bd {e : qEn} (h : EV e) : (-100000 ≤ Ed e.2.2.1 ∧ Ed e.2.2.1 ≤ 100000) ∧ (-100000 ≤ Ed e.2.2.2 ∧ Ed e.2.2.2 ≤ 100000) ∧ (0 ≤ e.1 ∧ e.1 ≤ 8) := by
  have h1 := h.1.e0
  have h2 := h.1.2.2.2.2
  have h3 := h.2.1.e0
  have h4 := h.2.1.2.2.2.2
  have h5 := h.1.N
  omega
section HIS
variable {μ : qMu} {n : Nat} {e : qEn} {E : Nat → qEn} {p h : Nat}
theorem x_remember (hn : 5000 ≤ n) (hC : CX μ e) (hE : EV e) (H : HX μ p h E) : ∃ μ', fX9_remember n μ = some μ' ∧ HX μ' ((p + 1) % 10) (min (h + 1) 10) (push E h e) ∧ ∀ a, a ≠ 32 → (a < 35 ∨ 75 < a) → μ' a = μ a := by
  obtain ⟨⟨hp, hh⟩, H1, H2, H3⟩ := H
  obtain ⟨b1, b2, b3⟩ := hE.bd
  obtain ⟨μ1, p1, p2, p3⟩ := x_become (g := 36 + 4 * p) (o := 11) hn hC.1 hE.1.bd (by omega) (by omega) (by omega) b1 b3
  have k1 : ∀ a, a ≠ 36 + 4 * p → a ≠ 36 + 4 * p + 1 → μ1 a = μ a := fun a a1 a2 => p3 a (by simp; omega)
  obtain ⟨μ2, q1, q2, q3⟩ := x_become (g := 38 + 4 * p) (o := 13) hn (hC.2.1.kp (k1 13 (by omega) (by omega)) (k1 14 (by omega) (by omega))) hE.2.1.bd (by omega) (by omega) (by omega) b2 b3
  have k2 : ∀ a, a ≠ 38 + 4 * p → a ≠ 38 + 4 * p + 1 → μ2 a = μ1 a := fun a a1 a2 => q3 a (by simp; omega)
  have k12 : ∀ a, (a < 36 + 4 * p ∨ 39 + 4 * p < a) → μ2 a = μ a := fun a ha => (k2 a (by omega) (by omega)).trans (k1 a (by omega) (by omega))
  have e1 : rd μ1 32 4 = (p : Int) := (rd_cg (k1 32 (by omega) (by omega)) 4).trans H2
  have e2 : rd μ2 32 4 = (p : Int) := (rd_cg (k12 32 (by omega)) 4).trans H2
  have e3 : rd μ2 32 3 = (h : Int) := (rd_cg (k12 32 (by omega)) 3).trans H1
  have em : mn ((h : Int) + 1) 10 = ((min (h + 1) 10 : Nat) : Int) := by
    rw [mn_id (by omega) (by omega)]
    split <;> omega
  have ep : (if (p : Int) + 1 < 10 then (p : Int) + 1 else 0) = (((p + 1) % 10 : Nat) : Int) := by
    split <;> omega
  refine ⟨up (up (up μ2 35 (p : Int) e.2.1) 32 4 (((p + 1) % 10 : Nat) : Int)) 32 3 ((min (h + 1) 10 : Nat) : Int), ?_, ⟨⟨by omega, by omega⟩, ?_, ?_, fun j hj => ?_⟩, fun a a1 a2 => ?_⟩
  · have r1 : rd (up μ2 35 (p : Int) e.2.1) 32 4 = (p : Int) := by
      rw [rd_na (by decide)]
      exact e2
    have r2 : rd (up (up μ2 35 (p : Int) e.2.1) 32 4 (((p + 1) % 10 : Nat) : Int)) 32 3 = (h : Int) := by
      rw [rd_ni (by decide), rd_na (by decide)]
      exact e3
    have w : wr ((p : Int) + 1) = (p : Int) + 1 := wr_id (by omega) (by omega)
    have w10 : wr 10 = 10 := rfl
    simp only [fX9_remember, fX2_remember, H2, qLa33 p hp, Option.bind_some, hC.2.2, p1, e1, qLa34 p hp, q1, e2, qSa_in (show 0 ≤ (p : Int) ∧ (p : Int) < ((10 : Nat) : Int) by omega), qPf_eq, r1, w, w10, ep, r2, em]
  · rw [rd_at]
    exact wr_id (by omega) (by omega)
  · rw [rd_ni (by decide), rd_at]
    exact wr_id (by omega) (by omega)
  · have kU : ∀ a, a ≠ 35 → a ≠ 32 → (up (up (up μ2 35 (p : Int) e.2.1) 32 4 (((p + 1) % 10 : Nat) : Int)) 32 3 ((min (h + 1) 10 : Nat) : Int)) a = μ2 a := fun a a1 a2 => ((up_ne a2).trans (up_ne a2)).trans (up_ne a1)
    have e35 : ∀ i, rd (up (up (up μ2 35 (p : Int) e.2.1) 32 4 (((p + 1) % 10 : Nat) : Int)) 32 3 ((min (h + 1) 10 : Nat) : Int)) 35 i = rd (up μ2 35 (p : Int) e.2.1) 35 i := fun i => by rw [rd_na (by decide), rd_na (by decide)]
    have new : slt ((p + 1) % 10) (min (h + 1) 10) j = p → push E h e j = e → GY (up (up (up μ2 35 (p : Int) e.2.1) 32 4 (((p + 1) % 10 : Nat) : Int)) 32 3 ((min (h + 1) 10 : Nat) : Int)) (36 + 4 * slt ((p + 1) % 10) (min (h + 1) 10) j) (push E h e j).1 (push E h e j).2.2.1 ∧ GY (up (up (up μ2 35 (p : Int) e.2.1) 32 4 (((p + 1) % 10 : Nat) : Int)) 32 3 ((min (h + 1) 10 : Nat) : Int)) (38 + 4 * slt ((p + 1) % 10) (min (h + 1) 10) j) (push E h e j).1 (push E h e j).2.2.2 ∧ rd (up (up (up μ2 35 (p : Int) e.2.1) 32 4 (((p + 1) % 10 : Nat) : Int)) 32 3 ((min (h + 1) 10 : Nat) : Int)) 35 (slt ((p + 1) % 10) (min (h + 1) 10) j : Int) = (push E h e j).2.1 := by
      intro s1 s2
      rw [s1, s2]
      refine ⟨(p2.kp (k2 _ (by omega) (by omega)) (k2 _ (by omega) (by omega))).kp (kU _ (by omega) (by omega)) (kU _ (by omega) (by omega)), q2.kp (kU _ (by omega) (by omega)) (kU _ (by omega) (by omega)), ?_⟩
      rw [e35, rd_at]
      have := hE.2.2
      exact wr_id (by omega) (by omega)
    have old : ∀ j', j' < h → slt ((p + 1) % 10) (min (h + 1) 10) j = slt p h j' → slt p h j' ≠ p → push E h e j = E j' → GY (up (up (up μ2 35 (p : Int) e.2.1) 32 4 (((p + 1) % 10 : Nat) : Int)) 32 3 ((min (h + 1) 10 : Nat) : Int)) (36 + 4 * slt ((p + 1) % 10) (min (h + 1) 10) j) (push E h e j).1 (push E h e j).2.2.1 ∧ GY (up (up (up μ2 35 (p : Int) e.2.1) 32 4 (((p + 1) % 10 : Nat) : Int)) 32 3 ((min (h + 1) 10 : Nat) : Int)) (38 + 4 * slt ((p + 1) % 10) (min (h + 1) 10) j) (push E h e j).1 (push E h e j).2.2.2 ∧ rd (up (up (up μ2 35 (p : Int) e.2.1) 32 4 (((p + 1) % 10 : Nat) : Int)) 32 3 ((min (h + 1) 10 : Nat) : Int)) 35 (slt ((p + 1) % 10) (min (h + 1) 10) j : Int) = (push E h e j).2.1 := by
      intro j' hj' s1 s3 s2
      obtain ⟨o1, o2, o3⟩ := H3 j' hj'
      rw [s1, s2]
      refine ⟨(o1.kp (k12 _ (by omega)) (k12 _ (by omega))).kp (kU _ (by omega) (by omega)) (kU _ (by omega) (by omega)), (o2.kp (k12 _ (by omega)) (k12 _ (by omega))).kp (kU _ (by omega) (by omega)) (kU _ (by omega) (by omega)), ?_⟩
      rw [e35, rd_ni (by omega), rd_cg (k12 35 (by omega))]
      exact o3
    by_cases h10 : h < 10
    · by_cases hjh : j = h
      · refine new ?_ ?_
        · unfold slt
          omega
        · unfold push
          rw [if_pos h10, if_pos hjh]
      · refine old j (by omega) ?_ ?_ ?_
        · unfold slt
          omega
        · unfold slt
          omega
        · unfold push
          rw [if_pos h10, if_neg hjh]
    · by_cases hjh : j = 9
      · refine new ?_ ?_
        · unfold slt
          omega
        · unfold push
          rw [if_neg h10, if_pos hjh]
      · refine old (j + 1) (by omega) ?_ ?_ ?_
        · unfold slt
          omega
        · unfold slt
          omega
        · unfold push
          rw [if_neg h10, if_neg hjh]
  · exact (((up_ne a1).trans (up_ne a1)).trans (up_ne (by omega))).trans (k12 a (by omega))
theorem m_remember (hn : 5000 ≤ n) (hC : CM μ e) (H : HM μ h E) : ∃ μ', fX10_remember n μ = some μ' ∧ HM μ' (min (h + 1) 10) (push E h e) ∧ Fr [78, 81] μ μ' ∧ ∀ i, i ≠ 3 → rd μ' 78 i = rd μ 78 i := by
  obtain ⟨hh, H1, H2⟩ := H
  -- the writing
  have wrt : ∀ (ν : qMu) (q : Nat), q < 10 → rd ν 78 3 = (q : Int) → CM ν e → ∃ ν', lp (fun x : Int × qMu => bX10_remember_54 n x.1 x.2) n (0, ν) = some ν' ∧ Fr [81] ν ν' ∧ BK ν' 81 (130 * (q : Int)) e ∧ ∀ i, (i < 130 * (q : Int) ∨ 130 * (q : Int) + 130 ≤ i) → rd ν' 81 i = rd ν 81 i := by
    intro ν q hq hν hCν
    obtain ⟨y, r1, r2, r3, r4⟩ := lp_inv (f := fun x : Int × qMu => bX10_remember_54 n x.1 x.2) (fun k x => (x.1 = 130 - (k : Int) ∧ 0 ≤ x.1) ∧ Fr [81] ν x.2 ∧ (∀ i, 0 ≤ i → i < x.1 → rd x.2 81 (130 * (q : Int) + i) = rd ν 79 i) ∧ ∀ i, (i < 130 * (q : Int) ∨ 130 * (q : Int) + 130 ≤ i) → rd x.2 81 i = rd ν 81 i) (fun y => Fr [81] ν y ∧ (∀ i, 0 ≤ i → i < 130 → rd y 81 (130 * (q : Int) + i) = rd ν 79 i) ∧ ∀ i, (i < 130 * (q : Int) ∨ 130 * (q : Int) + 130 ≤ i) → rd y 81 i = rd ν 81 i) (by
      rintro k ⟨i, ξ⟩ ⟨⟨h4, h5⟩, h6, h7, h8⟩
      dsimp only at h4 h5 h6 h7 h8
      by_cases hi : i < 130
      · right
        have e1 : rd ξ 79 i = rd ν 79 i := rd_cg (h6 79 (by decide)) i
        have e2 : rd ξ 78 3 = (q : Int) := (rd_cg (h6 78 (by decide)) 3).trans hν
        refine ⟨k - 1, (i + 1, up ξ 81 (130 * (q : Int) + i) (rd ν 79 i)), ?_, by omega, ⟨by dsimp only; omega, by dsimp only; omega⟩, h6.tr (Fr.up (by simp)), fun j j1 j2 => ?_, fun j j1 => ?_⟩
        · simp (disch := omega) only [bX10_remember_54, wr_id, if_pos, qLd_in, Option.bind_some, e1, e2, qSa_in]
        · dsimp only at j2 ⊢
          by_cases ej : j = i
          · rw [ej, rd_at, wr_rd]
          · rw [rd_ni (by omega)]
            exact h7 j j1 (by omega)
        · dsimp only
          rw [rd_ni (by omega)]
          exact h8 j j1
      · left
        refine ⟨ξ, ?_, h6, fun j j1 j2 => h7 j j1 (by omega), h8⟩
        simp (disch := omega) only [bX10_remember_54, wr_id, if_neg]) n 130 (0, ν) ⟨⟨rfl, Int.le_refl _⟩, Fr.rf _ _, fun j j1 j2 => by dsimp only at j2; omega, fun j _ => rfl⟩ (by omega)
    refine ⟨y, r1, r2, hCν.bk.to (fun i i1 i2 => ?_), r4⟩
    rw [Int.zero_add]
    exact r3 i i1 i2
  by_cases h10 : h = 10
  · -- all move down by one
    obtain ⟨μ1, r1, r2, r3⟩ := lp_inv (f := fun x : Int × qMu => bX10_remember_13 n x.1 x.2) (fun k x => (x.1 = 1300 - (k : Int) ∧ 130 ≤ x.1) ∧ Fr [81] μ x.2 ∧ (∀ i, 0 ≤ i → i < x.1 - 130 → rd x.2 81 i = rd μ 81 (i + 130)) ∧ ∀ i, x.1 - 130 ≤ i → rd x.2 81 i = rd μ 81 i) (fun y => Fr [81] μ y ∧ ∀ i, 0 ≤ i → i < 1170 → rd y 81 i = rd μ 81 (i + 130)) (by
      rintro k ⟨i, ξ⟩ ⟨⟨h4, h5⟩, h6, h7, h8⟩
      dsimp only at h4 h5 h6 h7 h8
      by_cases hi : i < 1300
      · right
        have e1 : rd ξ 81 i = rd μ 81 i := h8 i (by omega)
        refine ⟨k - 1, (i + 1, up ξ 81 (i - 130) (rd μ 81 i)), ?_, by omega, ⟨by dsimp only; omega, by dsimp only; omega⟩, h6.tr (Fr.up (by simp)), fun j j1 j2 => ?_, fun j j1 => ?_⟩
        · simp (disch := omega) only [bX10_remember_13, wr_id, if_pos, qLd_in, Option.bind_some, e1, qSa_in]
        · dsimp only at j2 ⊢
          by_cases ej : j = i - 130
          · rw [ej, rd_at, wr_rd, show i - 130 + 130 = i by omega]
          · rw [rd_ni ej]
            exact h7 j j1 (by omega)
        · dsimp only at j1 ⊢
          rw [rd_ni (by omega)]
          exact h8 j (by omega)
      · left
        refine ⟨ξ, ?_, h6, fun j j1 j2 => h7 j j1 (by omega)⟩
        simp (disch := omega) only [bX10_remember_13, wr_id, if_neg]) n 1170 (130, μ) ⟨⟨rfl, Int.le_refl _⟩, Fr.rf _ _, fun j j1 j2 => by dsimp only at j2; omega, fun j _ => rfl⟩ (by omega)
    have e1 : rd μ1 78 3 = 10 := by
      rw [rd_cg (r2 78 (by decide)), H1, h10]
      rfl
    have e2 : rd (up μ1 78 3 9) 78 3 = ((9 : Nat) : Int) := by
      rw [rd_at]
      rfl
    obtain ⟨μ2, s1, s2, s3, s4⟩ := wrt (up μ1 78 3 9) 9 (by omega) e2 ((hC.kp (r2 79 (by decide))).kp (up_ne (μ := μ1) (a := 78) (b := 79) (i := 3) (v := 9) (by decide)))
    have e3 : rd μ2 78 3 = 9 := (rd_cg (s2 78 (by decide)) 3).trans e2
    refine ⟨up μ2 78 3 10, ?_, ⟨by omega, ?_, fun j hj => ?_⟩, ?_, fun i hi => ?_⟩
    · have w10 : wr 10 = 10 := rfl
      have hh10 : rd μ 78 3 = 10 := by
        rw [H1, h10]
        rfl
      simp only [fX10_remember, hh10, w10, if_true, r1, Option.bind_some, e1, qPf_eq, show (10 : Int) - 1 = 9 from rfl, s1, e3, show (9 : Int) + 1 = 10 from rfl]
    · rw [rd_at, h10]
      rfl
    · refine BK.to (μ := μ2) (A := 81) (o := 130 * (j : Int)) ?_ (fun i _ _ => rd_na (by decide))
      by_cases hj9 : j = 9
      · have : push E h e j = e := by
          unfold push
          rw [if_neg (by omega), if_pos hj9]
        rw [this, hj9]
        exact s3
      · have : push E h e j = E (j + 1) := by
          unfold push
          rw [if_neg (by omega), if_neg hj9]
        rw [this]
        refine (H2 (j + 1) (by omega)).to (fun i i1 i2 => ?_)
        rw [s4 _ (by omega), rd_na (by decide), r3 _ (by omega) (by omega)]
        congr 1
        omega
    · exact ((r2.wk (by simp)).tr (Fr.up (by simp))).tr ((s2.wk (by simp)).tr (Fr.up (by simp)))
    · rw [rd_ni hi, rd_cg (s2 78 (by decide)), rd_ni hi, rd_cg (r2 78 (by decide))]
  · obtain ⟨μ2, s1, s2, s3, s4⟩ := wrt μ h (by omega) H1 hC
    have e3 : rd μ2 78 3 = (h : Int) := (rd_cg (s2 78 (by decide)) 3).trans H1
    refine ⟨up μ2 78 3 ((h : Int) + 1), ?_, ⟨by omega, ?_, fun j hj => ?_⟩, (s2.wk (by simp)).tr (Fr.up (by simp)), fun i hi => ?_⟩
    · have hw : wr (h : Int) = (h : Int) := wr_id (by omega) (by omega)
      have w10 : wr 10 = 10 := rfl
      simp only [fX10_remember, H1, hw, w10, if_neg (show ¬ (h : Int) = 10 by omega), Option.bind_some, s1, e3, qPf_eq]
    · rw [rd_at, wr_id (by omega) (by omega)]
      omega
    · refine BK.to (μ := μ2) (A := 81) (o := 130 * (j : Int)) ?_ (fun i _ _ => rd_na (by decide))
      by_cases hjh : j = h
      · have : push E h e j = e := by
          unfold push
          rw [if_pos (by omega), if_pos hjh]
        rw [this, hjh]
        exact s3
      · have : push E h e j = E j := by
          unfold push
          rw [if_pos (by omega), if_neg hjh]
        rw [this]
        refine (H2 j (by omega)).to (fun i i1 i2 => ?_)
        exact s4 _ (by omega)
    · rw [rd_ni hi, rd_cg (s2 78 (by decide))]
theorem push_EV (hE : EV e) (h : Nat) (H : ∀ j, j < h → EV (E j)) (hh : h ≤ 10) : ∀ j, j < min (h + 1) 10 → EV (push E h e j) := by
  intro j hj
  unfold push
  split
  · split
    · exact hE
    · exact H j (by omega)
  · split
    · exact hE
    · exact H (j + 1) (by omega)
theorem x_undo (hn : 5000 ≤ n) (H : HX μ p h E) (hE : ∀ j, j < h → EV (E j)) : (h = 0 ∧ fX9_undo n μ = some (-1, μ)) ∨ (0 < h ∧ ∃ μ', fX9_undo n μ = some (((h - 1 : Nat) : Int), μ') ∧ CX μ' (E (h - 1)) ∧ HX μ' ((p + 9) % 10) (h - 1) E ∧ Fr [0, 11, 12, 13, 14, 32] μ μ' ∧ ∀ i, i ≠ 11 → rd μ' 0 i = rd μ 0 i) := by
  obtain ⟨⟨hp, hh⟩, H1, H2, H3⟩ := H
  by_cases h0 : h = 0
  · left
    refine ⟨h0, ?_⟩
    have e : rd μ 32 3 = 0 := by
      rw [H1, h0]
      rfl
    have w0 : wr 0 = 0 := rfl
    simp only [fX9_undo, fX2_length, Option.bind_some, e, w0, if_true]
  · right
    refine ⟨by omega, ?_⟩
    have ep : (if 0 < (p : Int) then (p : Int) - 1 else 9) = (((p + 9) % 10 : Nat) : Int) := by
      split <;> omega
    have em : mx ((h : Int) - 1) 0 = ((h - 1 : Nat) : Int) := by
      rw [mx_id (by omega) (by omega)]
      split <;> omega
    have hpn : (p + 9) % 10 < 10 := Nat.mod_lt _ (by omega)
    have es : slt p h (h - 1) = (p + 9) % 10 := by
      unfold slt
      omega
    obtain ⟨o1, o2, o3⟩ := H3 (h - 1) (by omega)
    have hEv := hE (h - 1) (by omega)
    obtain ⟨b1, b2, b3⟩ := hEv.bd
    rw [es] at o1 o2 o3
    generalize hp' : (p + 9) % 10 = p' at *
    generalize hs0 : up (up μ 32 4 (p' : Int)) 32 3 ((h - 1 : Nat) : Int) = μ0
    have k0 : ∀ a, a ≠ 32 → μ0 a = μ a := fun a ha => by
      rw [← hs0]
      exact (up_ne ha).trans (up_ne ha)
    have e04 : rd μ0 32 4 = (p' : Int) := by
      rw [← hs0, rd_ni (by decide), rd_at]
      exact wr_id (by omega) (by omega)
    have e03 : rd μ0 32 3 = ((h - 1 : Nat) : Int) := by
      rw [← hs0, rd_at]
      exact wr_id (by omega) (by omega)
    obtain ⟨μ1, q1, q2, q3⟩ := x_become (g := 11) (o := 36 + 4 * p') hn (o1.kp (k0 _ (by omega)) (k0 _ (by omega))) hEv.1.bd (by omega) (by omega) (by omega) b1 b3
    have k1 : ∀ a, a ≠ 11 → a ≠ 12 → μ1 a = μ0 a := fun a a1 a2 => q3 a (by simp; omega)
    have e14 : rd μ1 32 4 = (p' : Int) := (rd_cg (k1 32 (by omega) (by omega)) 4).trans e04
    obtain ⟨μ2, r1, r2, r3⟩ := x_become (g := 13) (o := 38 + 4 * p') hn ((o2.kp (k0 _ (by omega)) (k0 _ (by omega))).kp (k1 _ (by omega) (by omega)) (k1 _ (by omega) (by omega))) hEv.2.1.bd (by omega) (by omega) (by omega) b2 b3
    have k2 : ∀ a, a ≠ 13 → a ≠ 14 → μ2 a = μ1 a := fun a a1 a2 => r3 a (by simp; omega)
    have k12 : ∀ a, (a < 11 ∨ 14 < a) → μ2 a = μ0 a := fun a ha => (k2 a (by omega) (by omega)).trans (k1 a (by omega) (by omega))
    have e24 : rd μ2 32 4 = (p' : Int) := (rd_cg (k12 32 (by omega)) 4).trans e04
    have e23 : rd μ2 32 3 = ((h - 1 : Nat) : Int) := (rd_cg (k12 32 (by omega)) 3).trans e03
    have e35 : rd μ2 35 (p' : Int) = (E (h - 1)).2.1 := by
      rw [rd_cg (k12 35 (by omega)), rd_cg (k0 35 (by omega))]
      exact o3
    have kU : ∀ a, a ≠ 0 → up μ2 0 11 (E (h - 1)).2.1 a = μ2 a := fun a ha => up_ne ha
    have hm := hEv.2.2
    refine ⟨up μ2 0 11 (E (h - 1)).2.1, ?_, ⟨(q2.kp (k2 11 (by omega) (by omega)) (k2 12 (by omega) (by omega))).kp (kU _ (by omega)) (kU _ (by omega)), r2.kp (kU _ (by omega)) (kU _ (by omega)), ?_⟩, ⟨⟨hpn, by omega⟩, ?_, ?_, fun j hj => ?_⟩, fun a ha => ?_, fun i hi => ?_⟩
    · have wp : wr (p : Int) = (p : Int) := wr_id (by omega) (by omega)
      have wh : wr (h : Int) = (h : Int) := wr_id (by omega) (by omega)
      have w0 : wr 0 = 0 := rfl
      have e33 : rd (up μ 32 4 (p' : Int)) 32 3 = (h : Int) := by
        rw [rd_ni (by decide)]
        exact H1
      have e23' : rd (up μ2 0 11 (E (h - 1)).2.1) 32 3 = ((h - 1 : Nat) : Int) := by
        rw [rd_na (by decide)]
        exact e23
      simp only [fX9_undo, fX2_length, Option.bind_some, H1, wh, w0, if_neg (show ¬ (h : Int) = 0 by omega), fX2_stepBack, H2, wp, ep, qPf_eq, e33, em, hs0, fX2_lastGraph, e04, qLa33 p' hpn, q1, fX2_lastTarget, e14, qLa34 p' hpn, r1, fX2_lastMode, e24, qLd_in (show 0 ≤ (p' : Int) ∧ (p' : Int) < ((10 : Nat) : Int) by omega), e35, e23']
    · rw [rd_at]
      exact wr_id (by omega) (by omega)
    · rw [rd_na (by decide)]
      exact e23
    · rw [rd_na (by decide)]
      exact e24
    · have es2 : slt p' (h - 1) j = slt p h j := by
        unfold slt
        omega
      obtain ⟨v1, v2, v3⟩ := H3 j (by omega)
      have hs : slt p h j < 10 := Nat.mod_lt _ (by omega)
      rw [es2]
      have kk : ∀ a, 35 ≤ a → up μ2 0 11 (E (h - 1)).2.1 a = μ a := fun a ha => ((kU a (by omega)).trans (k12 a (by omega))).trans (k0 a (by omega))
      exact ⟨v1.kp (kk _ (by omega)) (kk _ (by omega)), v2.kp (kk _ (by omega)) (kk _ (by omega)), (rd_cg (kk 35 (by omega)) _).trans v3⟩
    · simp only [List.mem_cons, List.not_mem_nil, or_false, not_or] at ha
      exact ((kU a (by omega)).trans (k12 a (by omega))).trans (k0 a (by omega))
    · rw [rd_ni hi, rd_cg (k12 0 (by omega)), rd_cg (k0 0 (by omega))]
theorem m_undo (hn : 5000 ≤ n) (H : HM μ h E) : (h = 0 ∧ fX10_undo n μ = some (-1, up μ 78 4 0)) ∨ (0 < h ∧ ∃ μ', fX10_undo n μ = some (((h - 1 : Nat) : Int), μ') ∧ CM μ' (E (h - 1)) ∧ HM μ' (h - 1) E ∧ Fr [78, 79] μ μ' ∧ rd μ' 78 4 = 0 ∧ ∀ i, i ≠ 3 → i ≠ 4 → rd μ' 78 i = rd μ 78 i) := by
  obtain ⟨hh, H1, H2⟩ := H
  have w0 : wr 0 = 0 := rfl
  have f3 : rd (up μ 78 4 0) 78 3 = (h : Int) := by
    rw [rd_ni (by decide)]
    exact H1
  by_cases h0 : h = 0
  · left
    refine ⟨h0, ?_⟩
    have e : rd (up μ 78 4 0) 78 3 = 0 := by
      rw [f3, h0]
      rfl
    simp only [fX10_undo, qPf_eq, Option.bind_some, e, w0, if_true]
  · right
    refine ⟨by omega, ?_⟩
    have wh : wr (h : Int) = (h : Int) := wr_id (by omega) (by omega)
    have eh : (h : Int) - 1 = ((h - 1 : Nat) : Int) := by omega
    generalize hs0 : up (up μ 78 4 0) 78 3 ((h - 1 : Nat) : Int) = μ0
    have k0 : ∀ a, a ≠ 78 → μ0 a = μ a := fun a ha => by
      rw [← hs0]
      exact (up_ne ha).trans (up_ne ha)
    have e03 : rd μ0 78 3 = ((h - 1 : Nat) : Int) := by
      rw [← hs0, rd_at]
      exact wr_id (by omega) (by omega)
    obtain ⟨y, r1, r2, r3⟩ := lp_inv (f := fun x : Int × qMu => bX10_undo_26 n x.1 x.2) (fun k x => (x.1 = 130 - (k : Int) ∧ 0 ≤ x.1) ∧ Fr [79] μ0 x.2 ∧ ∀ i, 0 ≤ i → i < x.1 → rd x.2 79 i = rd μ 81 (130 * ((h - 1 : Nat) : Int) + i)) (fun y => Fr [79] μ0 y ∧ ∀ i, 0 ≤ i → i < 130 → rd y 79 i = rd μ 81 (130 * ((h - 1 : Nat) : Int) + i)) (by
      rintro k ⟨i, ξ⟩ ⟨⟨h4, h5⟩, h6, h7⟩
      dsimp only at h4 h5 h6 h7
      by_cases hi : i < 130
      · right
        have e1 : rd ξ 81 (130 * ((h - 1 : Nat) : Int) + i) = rd μ 81 (130 * ((h - 1 : Nat) : Int) + i) := (rd_cg (h6 81 (by decide)) _).trans (rd_cg (k0 81 (by decide)) _)
        have e2 : rd ξ 78 3 = ((h - 1 : Nat) : Int) := (rd_cg (h6 78 (by decide)) 3).trans e03
        refine ⟨k - 1, (i + 1, up ξ 79 i (rd μ 81 (130 * ((h - 1 : Nat) : Int) + i))), ?_, by omega, ⟨by dsimp only; omega, by dsimp only; omega⟩, h6.tr (Fr.up (by simp)), fun j j1 j2 => ?_⟩
        · simp (disch := omega) only [bX10_undo_26, wr_id, if_pos, qLd_in, Option.bind_some, e1, e2, qSa_in]
        · dsimp only at j2 ⊢
          by_cases ej : j = i
          · rw [ej, rd_at, wr_rd]
          · rw [rd_ni ej]
            exact h7 j j1 (by omega)
      · left
        refine ⟨ξ, ?_, h6, fun j j1 j2 => h7 j j1 (by omega)⟩
        simp (disch := omega) only [bX10_undo_26, wr_id, if_neg]) n 130 (0, μ0) ⟨⟨rfl, Int.le_refl _⟩, Fr.rf _ _, fun j j1 j2 => by dsimp only at j2; omega⟩ (by omega)
    have e78 : ∀ i, rd y 78 i = rd μ0 78 i := fun i => rd_cg (r2 78 (by decide)) i
    refine ⟨y, ?_, BK.cm ((H2 (h - 1) (by omega)).to (fun i i1 i2 => ?_)), ⟨by omega, (e78 3).trans e03, fun j hj => (H2 j (by omega)).to (fun i _ _ => (rd_cg (r2 81 (by decide)) _).trans (rd_cg (k0 81 (by decide)) _))⟩, fun a ha => ?_, ?_, fun i i1 i2 => ?_⟩
    · have e3y : rd y 78 3 = ((h - 1 : Nat) : Int) := (e78 3).trans e03
      simp only [fX10_undo, qPf_eq, Option.bind_some, f3, wh, w0, if_neg (show ¬ (h : Int) = 0 by omega), eh, hs0, r1, e3y]
    · rw [Int.zero_add]
      exact r3 i i1 i2
    · simp only [List.mem_cons, List.not_mem_nil, or_false, not_or] at ha
      exact (r2 a (by simp; omega)).trans (k0 a ha.1)
    · rw [e78, ← hs0, rd_ni (by decide), rd_at]
      rfl
    · rw [e78, ← hs0, rd_ni i1, rd_ni i2]
end HIS
