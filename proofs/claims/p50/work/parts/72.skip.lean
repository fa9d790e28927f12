/-! BLANKS AND WORDS in both -/
section SKP
variable {μ : qMu} {n : Nat} {b : Int → Int} {e p : Int}
def TB (b : Int → Int) (e : Int) : Prop := (0 ≤ e ∧ e ≤ 400) ∧ ∀ i, 0 ≤ i → i < e → 0 ≤ b i ∧ b i ≤ 255
/-- the text as the class has it -/
def TX (μ : qMu) (b : Int → Int) (e : Int) : Prop := rd μ 1 6 = e ∧ ∀ i, 0 ≤ i → i < e → ian (rd μ 2 i) 255 = b i
def TM (μ : qMu) (b : Int → Int) (e : Int) : Prop := rd μ 78 9 = e ∧ ∀ i, 0 ≤ i → i < e → rd μ 82 i = b i
/-- only these fields of an object change -/
def Fo (a : Nat) (l : List Int) (μ μ' : qMu) : Prop := (∀ x, x ≠ a → μ' x = μ x) ∧ ∀ i, i ∉ l → rd μ' a i = rd μ a i
theorem Fo.rf (a : Nat) (l : List Int) (μ : qMu) : Fo a l μ μ := ⟨fun _ _ => rfl, fun _ _ => rfl⟩
theorem Fo.tr {a : Nat} {l : List Int} {μ1 μ2 μ3 : qMu} (h1 : Fo a l μ1 μ2) (h2 : Fo a l μ2 μ3) : Fo a l μ1 μ3 := ⟨fun x hx => (h2.1 x hx).trans (h1.1 x hx), fun i hi => (h2.2 i hi).trans (h1.2 i hi)⟩
theorem Fo.wk {a : Nat} {l l' : List Int} {μ1 μ2 : qMu} (h : Fo a l μ1 μ2) (hl : ∀ x ∈ l, x ∈ l') : Fo a l' μ1 μ2 := ⟨h.1, fun i hi => h.2 i (fun q => hi (hl i q))⟩
theorem Fo.up {a : Nat} {l : List Int} {i v : Int} (h : i ∈ l) : Fo a l μ (up μ a i v) := ⟨fun _ hx => up_ne hx, fun j hj => rd_ni (fun q => hj (q ▸ h))⟩
theorem TX.kp {μ' : qMu} {l : List Int} (h : TX μ b e) (f : Fo 1 l μ μ') (hl : (6 : Int) ∉ l) : TX μ' b e := ⟨(f.2 6 hl).trans h.1, fun i i1 i2 => by rw [rd_cg (f.1 2 (by decide))]; exact h.2 i i1 i2⟩
theorem TM.kp {μ' : qMu} {l : List Int} (h : TM μ b e) (f : Fo 78 l μ μ') (hl : (9 : Int) ∉ l) : TM μ' b e := ⟨(f.2 9 hl).trans h.1, fun i i1 i2 => by rw [rd_cg (f.1 82 (by decide))]; exact h.2 i i1 i2⟩
theorem x_byteAt (h : TX μ b e) (hb : TB b e) {i : Int} (hi : 0 ≤ i ∧ i < e) : fX5_byteAt i μ = some (b i) := by
  have h1 := hb.1
  simp (disch := omega) only [fX5_byteAt, wr_id, if_neg, if_pos, qLd_in, Option.bind_some, h.2 i hi.1 hi.2]
theorem x_skip (hn : 5000 ≤ n) (h : TX μ b e) (hb : TB b e) (hp : 0 ≤ p ∧ p ≤ e) (h0 : rd μ 1 11 = p) : ∃ μ', lp (fun x : qMu => bX5_advance_0 n x) n μ = some μ' ∧ rd μ' 1 11 = run isB b e 401 p ∧ Fo 1 [11] μ μ' := by
  have h1 := hb.1
  obtain ⟨y, r1, r2, r3⟩ := lp_inv (f := fun x : qMu => bX5_advance_0 n x) (fun k x => ∃ q, rd x 1 11 = q ∧ (0 ≤ q ∧ q ≤ e) ∧ e - q < (k : Int) ∧ run isB b e k q = run isB b e 401 p ∧ Fo 1 [11] μ x) (fun y => rd y 1 11 = run isB b e 401 p ∧ Fo 1 [11] μ y) (by
    rintro k ξ ⟨q, h2, h3, h4, h5, h6⟩
    obtain ⟨k, rfl⟩ : ∃ k', k = k' + 1 := ⟨k - 1, by omega⟩
    have hT := h.kp h6 (by decide)
    have hs : run isB b e (k + 1) q = if q < e ∧ isB (b q) = true then run isB b e k (q + 1) else q := rfl
    by_cases c1 : q < e
    · have hbq := hb.2 q h3.1 c1
      have eb := x_byteAt hT hb ⟨h3.1, c1⟩
      by_cases c2 : b q = 32 ∨ b q = 10
      · right
        have eB : isB (b q) = true := by
          unfold isB
          rcases c2 with c2 | c2 <;> rw [c2] <;> rfl
        rw [hs, if_pos ⟨c1, eB⟩] at h5
        have ei : fX5_isBlank (b q) ξ = some 1 := by
          rcases c2 with c2 | c2 <;> rw [c2] <;> rfl
        refine ⟨k, up ξ 1 11 (q + 1), ?_, by omega, q + 1, ?_, by omega, by omega, h5, h6.tr (Fo.up (by simp))⟩
        · simp (disch := omega) only [bX5_advance_0, h2, hT.1, wr_id, if_pos, if_neg, eb, ei, Option.bind_some, qPf_eq]
        · rw [rd_at]
          exact wr_id (by omega) (by omega)
      · left
        have eB : isB (b q) = false := by
          unfold isB
          rw [decide_eq_false (by omega), decide_eq_false (by omega)]
          rfl
        rw [hs, if_neg (by rw [eB]; rintro ⟨-, q'⟩; cases q')] at h5
        have ei : fX5_isBlank (b q) ξ = some 0 := by
          simp (disch := omega) only [fX5_isBlank, wr_id, if_neg]
        refine ⟨ξ, ?_, h2.trans h5, h6⟩
        simp (disch := omega) only [bX5_advance_0, h2, hT.1, wr_id, if_pos, eb, ei, Option.bind_some, ite_true]
    · left
      rw [hs, if_neg (fun q' => c1 q'.1)] at h5
      refine ⟨ξ, ?_, h2.trans h5, h6⟩
      simp (disch := omega) only [bX5_advance_0, h2, hT.1, wr_id, if_neg]) n 401 μ ⟨p, h0, hp, by omega, rfl, Fo.rf _ _ _⟩ (by omega)
  exact ⟨y, r1, r2, r3⟩
theorem x_word (hn : 5000 ≤ n) (h : TX μ b e) (hb : TB b e) (hp : 0 ≤ p ∧ p ≤ e) (h0 : rd μ 1 11 = p) : ∃ μ', lp (fun x : qMu => bX5_takeWord_0 n x) n μ = some μ' ∧ rd μ' 1 11 = run isL b e 401 p ∧ Fo 1 [11] μ μ' := by
  have h1 := hb.1
  obtain ⟨y, r1, r2, r3⟩ := lp_inv (f := fun x : qMu => bX5_takeWord_0 n x) (fun k x => ∃ q, rd x 1 11 = q ∧ (0 ≤ q ∧ q ≤ e) ∧ e - q < (k : Int) ∧ run isL b e k q = run isL b e 401 p ∧ Fo 1 [11] μ x) (fun y => rd y 1 11 = run isL b e 401 p ∧ Fo 1 [11] μ y) (by
    rintro k ξ ⟨q, h2, h3, h4, h5, h6⟩
    obtain ⟨k, rfl⟩ : ∃ k', k = k' + 1 := ⟨k - 1, by omega⟩
    have hT := h.kp h6 (by decide)
    have hs : run isL b e (k + 1) q = if q < e ∧ isL (b q) = true then run isL b e k (q + 1) else q := rfl
    by_cases c1 : q < e
    · have hbq := hb.2 q h3.1 c1
      have eb := x_byteAt hT hb ⟨h3.1, c1⟩
      by_cases c2 : 97 ≤ b q ∧ b q ≤ 122
      · right
        have eB : isL (b q) = true := by
          unfold isL
          rw [decide_eq_true c2.1, decide_eq_true c2.2]
          rfl
        rw [hs, if_pos ⟨c1, eB⟩] at h5
        have ei : fX5_isLetter (b q) ξ = some 1 := by
          simp (disch := omega) only [fX5_isLetter, wr_id, if_neg]
        refine ⟨k, up ξ 1 11 (q + 1), ?_, by omega, q + 1, ?_, by omega, by omega, h5, h6.tr (Fo.up (by simp))⟩
        · simp (disch := omega) only [bX5_takeWord_0, h2, hT.1, wr_id, if_pos, if_neg, eb, ei, Option.bind_some, qPf_eq]
        · rw [rd_at]
          exact wr_id (by omega) (by omega)
      · left
        have eB : isL (b q) = false := by
          unfold isL
          by_cases c3 : 97 ≤ b q
          · rw [decide_eq_false (show ¬ b q ≤ 122 by omega), Bool.and_false]
          · rw [decide_eq_false c3, Bool.false_and]
        rw [hs, if_neg (by rw [eB]; rintro ⟨-, q'⟩; cases q')] at h5
        have ei : fX5_isLetter (b q) ξ = some 0 := by
          by_cases c3 : 97 ≤ b q
          · simp (disch := omega) only [fX5_isLetter, wr_id, if_neg, if_pos]
          · simp (disch := omega) only [fX5_isLetter, wr_id, if_pos]
        refine ⟨ξ, ?_, h2.trans h5, h6⟩
        simp (disch := omega) only [bX5_takeWord_0, h2, hT.1, wr_id, if_pos, eb, ei, Option.bind_some, ite_true]
    · left
      rw [hs, if_neg (fun q' => c1 q'.1)] at h5
      refine ⟨ξ, ?_, h2.trans h5, h6⟩
      simp (disch := omega) only [bX5_takeWord_0, h2, hT.1, wr_id, if_neg]) n 401 μ ⟨p, h0, hp, by omega, rfl, Fo.rf _ _ _⟩ (by omega)
  exact ⟨y, r1, r2, r3⟩
end SKP
