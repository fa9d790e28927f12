/-! BYTES FED, in both; the mean degree -/
theorem bp_b (x : Int32) : x.toInt8.toInt32 &&& 255 = x &&& 255 := by
  apply Int32.toBitVec_inj.mp
  rw [Int32.toBitVec_and, Int32.toBitVec_and, Int8.toBitVec_toInt32, Int32.toBitVec_toInt8]
  apply BitVec.eq_of_getLsbD_eq
  intro i hi
  rw [BitVec.getLsbD_and, BitVec.getLsbD_and]
  have hm : ∀ i < 32, 8 ≤ i → (255 : Int32).toBitVec.getLsbD i = false := by decide
  rcases Nat.lt_or_ge i 8 with z | z
  · rw [BitVec.getLsbD_signExtend, BitVec.getLsbD_signExtend, if_pos z, if_pos hi]
    simp only [z, hi, decide_true, Bool.true_and]
  · rw [hm i hi z]; simp
theorem nar_255 (v : Int) : ian (qNr .byte (i2b v)) 255 = ian v 255 := by
  unfold ian qNr i2b
  rw [Int32.ofInt_toInt, Int32.ofInt_toInt, pk_vb]
  show ((Int32.ofInt v).toInt8.toInt32 &&& 255).toInt = (Int32.ofInt v &&& 255).toInt
  rw [bp_b]
theorem ian_255 (v : Int) : 0 ≤ ian v 255 ∧ ian v 255 ≤ 255 := by
  obtain ⟨j, hj, h⟩ := pk_andE (Int32.ofInt v) (m := 255) 8 (by decide)
  have e1 : ian v 255 = (j : Int) := by
    unfold ian
    show (Int32.ofInt v &&& 255).toInt = _
    rw [h]
    exact Int32.toInt_ofNat_of_lt (by omega)
  omega
/-- the bytes of both sides -/
def BF (μ : qMu) (F : Int) : Prop := rd μ 1 5 = F ∧ rd μ 78 6 = F ∧ (0 ≤ F ∧ F ≤ 400) ∧ ∀ i, 0 ≤ i → i < F → ian (rd μ 2 i) 255 = rd μ 82 i ∧ 0 ≤ rd μ 82 i ∧ rd μ 82 i ≤ 255
/-- a number of bytes in one side -/
def BX (μ : qMu) (F : Int) (b : Int → Int) : Prop := rd μ 1 5 = F ∧ ∀ i, 0 ≤ i → i < F → ian (rd μ 2 i) 255 = b i
def BM (μ : qMu) (F : Int) (b : Int → Int) : Prop := rd μ 78 6 = F ∧ ∀ i, 0 ≤ i → i < F → rd μ 82 i = b i
def bp1 (b : Int → Int) (F x : Int) : Int → Int := fun i => if i = F then x else b i
def bp4 (b : Int → Int) (F w : Int) : Int → Int := bp1 (bp1 (bp1 (bp1 b F (ian (iush w 24) 255)) (F + 1) (ian (iush w 16) 255)) (F + 2) (ian (iush w 8) 255)) (F + 3) (ian (iush w 0) 255)
section FED
variable {μ : qMu} {n : Nat} {b : Int → Int} {F w : Int}
theorem x_byte {z : Int} (h : BX μ F b) (hF : 0 ≤ F ∧ F < 400) (hz : 0 ≤ z ∧ z ≤ 24) : ∃ μ', bX5_append_3 n w z μ = some (.inl (z + (-8), μ')) ∧ BX μ' (F + 1) (bp1 b F (ian (iush w z) 255)) ∧ Fr [1, 2] μ μ' ∧ ∀ i, i ≠ 5 → rd μ' 1 i = rd μ 1 i := by
  have e5 : ∀ v, rd (up μ 2 F v) 1 5 = F := fun v => (rd_na (by decide)).trans h.1
  refine ⟨up (up μ 2 F (qNr .byte (i2b (iush w z)))) 1 5 (F + 1), ?_, ⟨?_, fun i i1 i2 => ?_⟩, (Fr.up (by simp)).tr (Fr.up (by simp)), fun i hi => ?_⟩
  · simp (disch := omega) only [ite_true, bX5_append_3, h.1, wr_id, if_pos, if_neg, qSa_in, qPf_eq, e5, Option.bind_some]
  · rw [rd_at]
    exact wr_id (by omega) (by omega)
  · rw [rd_na (by decide)]
    unfold bp1
    by_cases q : i = F
    · rw [if_pos q, q, rd_at, ← nar_255 (iush w z)]
      unfold ian wr
      rw [Int32.ofInt_toInt]
    · rw [if_neg q, rd_ni q]
      exact h.2 i i1 (by omega)
  · rw [rd_ni hi, rd_na (by decide)]
theorem x_word4 (hn : 5000 ≤ n) (h : BX μ F b) (hF : 0 ≤ F ∧ F ≤ 396) : ∃ μ', fX5_append n w μ = some μ' ∧ BX μ' (F + 4) (bp4 b F w) ∧ Fr [1, 2] μ μ' ∧ ∀ i, i ≠ 5 → rd μ' 1 i = rd μ 1 i := by
  obtain ⟨m, rfl⟩ : ∃ m, n = m + 5 := ⟨n - 5, by omega⟩
  obtain ⟨μ1, a1, a2, a3, a4⟩ := x_byte (n := m + 5) (w := w) (z := 24) h (by omega) (by omega)
  obtain ⟨μ2, b1, b2, b3, b4⟩ := x_byte (n := m + 5) (w := w) (z := 16) a2 (by omega) (by omega)
  obtain ⟨μ3, c1, c2, c3, c4⟩ := x_byte (n := m + 5) (w := w) (z := 8) b2 (by omega) (by omega)
  obtain ⟨μ4, d1, d2, d3, d4⟩ := x_byte (n := m + 5) (w := w) (z := 0) c2 (by omega) (by omega)
  have e1 : bX5_append_3 (m + 5) w (-8) μ4 = some (.inr μ4) := by
    simp (disch := omega) only [ite_true, bX5_append_3, wr_id, if_pos]
  refine ⟨μ4, ?_, ?_, ((a3.tr b3).tr c3).tr d3, fun i hi => ((d4 i hi).trans (c4 i hi)).trans ((b4 i hi).trans (a4 i hi))⟩
  · unfold fX5_append
    rw [lp_s]
    dsimp only
    rw [a1, obs]
    show (lp (fun x : Int × qMu => bX5_append_3 (m + 5) w x.1 x.2) (m + 4) (16, μ1)).bind _ = _
    rw [lp_s]
    dsimp only
    rw [b1, obs]
    show (lp (fun x : Int × qMu => bX5_append_3 (m + 5) w x.1 x.2) (m + 3) (8, μ2)).bind _ = _
    rw [lp_s]
    dsimp only
    rw [c1, obs]
    show (lp (fun x : Int × qMu => bX5_append_3 (m + 5) w x.1 x.2) (m + 2) (0, μ3)).bind _ = _
    rw [lp_s]
    dsimp only
    rw [d1, obs]
    show (lp (fun x : Int × qMu => bX5_append_3 (m + 5) w x.1 x.2) (m + 1) (-8, μ4)).bind _ = _
    rw [lp_s]
    dsimp only
    rw [e1, obs]
    rfl
  · rw [show F + 4 = F + 1 + 1 + 1 + 1 by omega]
    unfold bp4
    rw [show F + 2 = F + 1 + 1 by omega, show F + 3 = F + 1 + 1 + 1 by omega]
    exact d2
theorem bp1_r {P : Int → Prop} {x : Int} (h : ∀ i, 0 ≤ i → i < F → P (b i)) (hx : P x) : ∀ i, 0 ≤ i → i < F + 1 → P (bp1 b F x i) := fun i i1 i2 => by
  unfold bp1
  by_cases q : i = F
  · rw [if_pos q]
    exact hx
  · rw [if_neg q]
    exact h i i1 (by omega)
theorem bp4_r (h : ∀ i, 0 ≤ i → i < F → 0 ≤ b i ∧ b i ≤ 255) : ∀ i, 0 ≤ i → i < F + 4 → 0 ≤ bp4 b F w i ∧ bp4 b F w i ≤ 255 := by
  have h1 := bp1_r (P := fun x => 0 ≤ x ∧ x ≤ 255) h (ian_255 (iush w 24))
  have h2 := bp1_r (P := fun x => 0 ≤ x ∧ x ≤ 255) h1 (ian_255 (iush w 16))
  have h3 := bp1_r (P := fun x => 0 ≤ x ∧ x ≤ 255) h2 (ian_255 (iush w 8))
  have h4 := bp1_r (P := fun x => 0 ≤ x ∧ x ≤ 255) h3 (ian_255 (iush w 0))
  intro i i1 i2
  have := h4 i i1 (by omega)
  unfold bp4
  rw [show F + 2 = F + 1 + 1 by omega, show F + 3 = F + 1 + 1 + 1 by omega]
  exact this
def bp20 (b : Int → Int) (F p q r s t : Int) : Int → Int := bp4 (bp4 (bp4 (bp4 (bp4 b F p) (F + 4) q) (F + 8) r) (F + 12) s) (F + 16) t
theorem x_feed {p q r s t : Int} (hn : 5000 ≤ n) (h : BX μ F b) (hF : 0 ≤ F ∧ F ≤ 400) : (380 < F ∧ fX9_feed n p q r s t μ = some (-2, μ)) ∨ (F ≤ 380 ∧ ∃ μ', fX9_feed n p q r s t μ = some (F + 20, μ') ∧ BX μ' (F + 20) (bp20 b F p q r s t) ∧ Fr [1, 2] μ μ' ∧ ∀ i, i ≠ 5 → rd μ' 1 i = rd μ 1 i) := by
  by_cases c : 380 < F
  · left
    refine ⟨c, ?_⟩
    simp (disch := omega) only [ite_true, fX9_feed, fX5_hasRoom, h.1, wr_id, if_pos, Option.bind_some]
  · right
    refine ⟨by omega, ?_⟩
    obtain ⟨μ1, a1, a2, a3, a4⟩ := x_word4 (w := p) hn h (by omega)
    obtain ⟨μ2, b1, b2, b3, b4⟩ := x_word4 (w := q) hn a2 (by omega)
    obtain ⟨μ3, c1, c2, c3, c4⟩ := x_word4 (w := r) hn b2 (by omega)
    obtain ⟨μ4, d1, d2, d3, d4⟩ := x_word4 (w := s) hn c2 (by omega)
    obtain ⟨μ5, e1, e2, e3, e4⟩ := x_word4 (w := t) hn d2 (by omega)
    have e20 : F + 4 + 4 + 4 + 4 + 4 = F + 20 := by omega
    rw [e20] at e2
    refine ⟨μ5, ?_, ?_, (((a3.tr b3).tr c3).tr d3).tr e3, fun i hi => (((e4 i hi).trans (d4 i hi)).trans (c4 i hi)).trans ((b4 i hi).trans (a4 i hi))⟩
    · have h5 := e2.1
      simp (disch := omega) only [ite_true, fX9_feed, fX5_hasRoom, h.1, wr_id, if_neg, Option.bind_some, a1, b1, c1, d1, e1, fX5_fedBytes, h5]
    · unfold bp20
      rw [show F + 8 = F + 4 + 4 by omega, show F + 12 = F + 4 + 4 + 4 by omega, show F + 16 = F + 4 + 4 + 4 + 4 by omega]
      exact e2
theorem bp20_r {p q r s t : Int} (h : ∀ i, 0 ≤ i → i < F → 0 ≤ b i ∧ b i ≤ 255) : ∀ i, 0 ≤ i → i < F + 20 → 0 ≤ bp20 b F p q r s t i ∧ bp20 b F p q r s t i ≤ 255 := by
  have h1 := bp4_r (w := p) h
  have h2 := bp4_r (w := q) h1
  have h3 := bp4_r (w := r) h2
  have h4 := bp4_r (w := s) h3
  have h5 := bp4_r (w := t) h4
  intro i i1 i2
  have := h5 i i1 (by omega)
  unfold bp20
  rw [show F + 8 = F + 4 + 4 by omega, show F + 12 = F + 4 + 4 + 4 by omega, show F + 16 = F + 4 + 4 + 4 + 4 by omega]
  exact this
/-! the mean degree: 2x/N there, 2.0*x/N here -/
def mdz (a k : Nat) : Bool := match ddv (i2d (2 * (a : Int))) (i2d ((k : Int) + 1)) with
  | some z => (match dmu 4611686018427387904 (i2d (a : Int)) with
    | some x => (match ddv x (i2d ((k : Int) + 1)) with
      | some y => decide (wr (dcm z y .l) = 0)
      | none => false)
    | none => false)
  | none => false
theorem md_all : ∀ a : Nat, a < 17 → ∀ k : Nat, k < 8 → mdz a k = true := by decide +kernel
theorem md_ok {x N : Int} (hx : 0 ≤ x ∧ x ≤ 16) (hN : 1 ≤ N ∧ N ≤ 8) : ∃ z y y2, ddv (i2d (2 * x)) (i2d N) = some z ∧ dmu 4611686018427387904 (i2d x) = some y ∧ ddv y (i2d N) = some y2 ∧ wr (dcm z y2 .l) = 0 := by
  have h := md_all x.toNat (by omega) (N - 1).toNat (by omega)
  unfold mdz at h
  rw [show ((x.toNat : Nat) : Int) = x by omega, show (((N - 1).toNat : Nat) : Int) + 1 = N by omega] at h
  cases hd : ddv (i2d (2 * x)) (i2d N) with
  | none =>
    rw [hd] at h
    cases h
  | some z =>
    rw [hd] at h
    dsimp only at h
    cases he : dmu 4611686018427387904 (i2d x) with
    | none =>
      rw [he] at h
      cases h
    | some y =>
      rw [he] at h
      dsimp only at h
      cases hf : ddv y (i2d N) with
      | none =>
        rw [hf] at h
        cases h
      | some y2 =>
        rw [hf] at h
        exact ⟨z, y, y2, rfl, rfl, hf, of_decide_eq_true h⟩
end FED
