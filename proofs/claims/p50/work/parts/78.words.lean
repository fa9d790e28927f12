/-! WORDS AND NUMBERS of the text, errors; both sides -/
def wd (a : Nat) (k : Int) : Int := wr ((qStr (a - 1000000)).getD k.toNat 0)
def isW (b : Int → Int) (e s : Int) (a : Nat) : Prop := tkK b e s = 1 ∧ tkE b e s - s = qsl a ∧ ∀ k, 0 ≤ k → k < qsl a → b (s + k) = wd a k
def nx (b : Int → Int) (e s : Int) : Int := tkS b e (tkE b e s)
def er (b : Int → Int) (e s w : Int) : Int × Int := (if tkK b e s = 4 then 1 else w, s)
def pnum (b : Int → Int) (e s lo hi : Int) : (Int × Int) ⊕ Int := if tkK b e s = 2 then (if tkV b e s < lo ∨ hi < tkV b e s then .inl (er b e s 3) else .inr (tkV b e s)) else .inl (er b e s 2)
def XE (μ : qMu) (p : Int × Int) : Prop := rd μ 1 7 = p.1 ∧ rd μ 1 8 = p.2
def ME (μ : qMu) (p : Int × Int) : Prop := rd μ 78 14 = p.1 ∧ rd μ 78 15 = p.2
theorem wr_wr (x : Int) : wr (wr x) = wr x := by
  unfold wr
  rw [Int32.ofInt_toInt]
theorem wd_w (a : Nat) (k : Int) : wr (wd a k) = wd a k := wr_wr _
theorem qsc_in {a : Nat} {k : Int} (h : 0 ≤ k ∧ k < qsl a) : qsc a k = some (wd a k) := if_pos h
theorem qsl_nn (a : Nat) : 0 ≤ qsl a := Int.natCast_nonneg _
theorem tkK_r (b : Int → Int) (e s : Int) : 0 ≤ tkK b e s ∧ tkK b e s ≤ 4 := by
  unfold tkK
  repeat' split
  all_goals omega
theorem tkK_lt {b : Int → Int} {e s : Int} (h : tkK b e s ≠ 0) : s < e := by
  apply Decidable.byContradiction
  intro q
  exact h (if_neg q)
theorem tkK_0 {b : Int → Int} {e s : Int} (hs : s ≤ e) (h : tkK b e s = 0) : s = e := by
  unfold tkK at h
  by_cases c1 : s < e
  · rw [if_pos c1] at h
    repeat' split at h
    all_goals omega
  · omega
theorem nx_r {b : Int → Int} {e s : Int} (hs : 0 ≤ s ∧ s ≤ e) : (0 ≤ nx b e s ∧ nx b e s ≤ e) ∧ (s < e → s + 1 ≤ nx b e s) := by
  have h1 := tkE_r (b := b) hs
  have h2 := tkS_r (b := b) (e := e) (p := tkE b e s) (by omega)
  unfold nx
  exact ⟨by omega, fun q => by have := h1.2.2 q; omega⟩
theorem tkV_r {b : Int → Int} {e s : Int} (hb : TB b e) (hs : 0 ≤ s ∧ s ≤ e) (h : tkK b e s = 2) : 0 ≤ tkV b e s ∧ tkV b e s ≤ 99 := by
  have hlt := tkK_lt (b := b) (e := e) (s := s) (by omega)
  unfold tkK at h
  rw [if_pos hlt] at h
  by_cases c2 : isL (b s) = true
  · rw [if_pos c2] at h
    split at h <;> omega
  · rw [if_neg c2] at h
    by_cases c3 : isD (b s) = true
    · rw [if_pos c3] at h
      have h1 : s + 1 ≤ run isD b e 401 s := run_1 (k := 400) hlt c3
      have h2 : run isD b e 401 s - s ≤ 2 := by
        apply Decidable.byContradiction
        intro q
        rw [if_pos (by omega)] at h
        omega
      have dg : ∀ x, isD x = true → 48 ≤ x ∧ x ≤ 57 := fun x q => by
        unfold isD at q
        rw [Bool.and_eq_true, decide_eq_true_eq, decide_eq_true_eq] at q
        exact q
      have d0 := dg _ c3
      have hj : run isD b e 401 s - s = 1 ∨ run isD b e 401 s - s = 2 := by omega
      unfold tkV nuj
      rcases hj with hj | hj
      · rw [hj, if_neg (by omega), if_pos rfl]
        omega
      · have d1 := dg _ (run_in isD b e 401 s (s + 1) (by omega) (by omega)).2
        rw [hj, if_neg (by omega), if_neg (by omega)]
        omega
    · rw [if_neg c3] at h
      split at h <;> omega
theorem kr_4 (b : Int → Int) (e s : Int) : (0 ≤ kr (tkK b e s) ∧ kr (tkK b e s) ≤ 4) ∧ (kr (tkK b e s) = 1 ↔ tkK b e s = 4) ∧ (kr (tkK b e s) = 3 ↔ tkK b e s = 2) ∧ (kr (tkK b e s) = 4 ↔ tkK b e s = 3) ∧ (kr (tkK b e s) = 0 ↔ tkK b e s = 0) := by
  have hk := tkK_r b e s
  unfold kr
  split
  · omega
  · split <;> omega
section WRD
variable {μ : qMu} {n : Nat} {b : Int → Int} {e s : Int} {a : Nat}
theorem x_wloop {l : Int} {g : Int → Option Int} {w : Int → Int} (hn : 5000 ≤ n) (h : TX μ b e) (hb : TB b e) (hs : 0 ≤ s ∧ s + l ≤ e) (hl : 0 ≤ l ∧ l ≤ 8) (k1 : rd μ 1 10 = s) (hg : ∀ k, 0 ≤ k → k < l → g k = some (w k)) (hw : ∀ k, wr (w k) = w k) : ∃ y, lp (fun x : Int => (if wr x < wr l then (fX5_byteAt ((rd μ 1 10) + x) μ).bind fun y4 => (g x).bind fun x5 => if wr y4 = wr x5 then some (.inl (x + 1)) else some (.inr (.inr 0)) else some (.inr (.inl ())) : Option (Int ⊕ (Unit ⊕ Int)))) n 0 = some y ∧ ((y = .inl () ∧ ∀ j, 0 ≤ j → j < l → b (s + j) = w j) ∨ (y = .inr 0 ∧ ¬ ∀ j, 0 ≤ j → j < l → b (s + j) = w j)) := by
  have h1 := hb.1
  exact lp_inv (f := fun x : Int => (if wr x < wr l then (fX5_byteAt ((rd μ 1 10) + x) μ).bind fun y4 => (g x).bind fun x5 => if wr y4 = wr x5 then some (.inl (x + 1)) else some (.inr (.inr 0)) else some (.inr (.inl ())) : Option (Int ⊕ (Unit ⊕ Int)))) (fun k x => (x = l - (k : Int) ∧ 0 ≤ x) ∧ ∀ j, 0 ≤ j → j < x → b (s + j) = w j) (fun y => (y = .inl () ∧ ∀ j, 0 ≤ j → j < l → b (s + j) = w j) ∨ (y = .inr 0 ∧ ¬ ∀ j, 0 ≤ j → j < l → b (s + j) = w j)) (by
    rintro k x ⟨⟨h4, h5⟩, h6⟩
    by_cases hx : x < l
    · have eb := x_byteAt h hb (i := s + x) (by omega)
      have hr := hb.2 (s + x) (by omega) (by omega)
      have eg := hg x h5 hx
      by_cases c3 : b (s + x) = w x
      · right
        refine ⟨k - 1, x + 1, ?_, by omega, ⟨by omega, by omega⟩, fun j j1 j2 => ?_⟩
        · rw [wr_id (by omega) (by omega), wr_id (by omega) (by omega), if_pos hx, k1, eb, obs, eg, obs, c3, if_pos rfl]
        · by_cases e1 : j = x
          · rw [e1]
            exact c3
          · exact h6 j j1 (by omega)
      · left
        refine ⟨.inr 0, ?_, Or.inr ⟨rfl, fun q => c3 (q x h5 hx)⟩⟩
        rw [wr_id (x := x) (by omega) (by omega), wr_id (x := l) (by omega) (by omega), if_pos hx, k1, eb, obs, eg, obs, hw, wr_id (by omega) (by omega), if_neg c3]
    · left
      refine ⟨.inl (), ?_, Or.inl ⟨rfl, fun j j1 j2 => h6 j j1 (by omega)⟩⟩
      rw [wr_id (by omega) (by omega), wr_id (by omega) (by omega), if_neg hx]) n l.toNat 0 ⟨⟨by omega, Int.le_refl _⟩, fun j j1 j2 => by omega⟩ (by omega)
theorem x_isWord (hn : 5000 ≤ n) (h : TX μ b e) (hb : TB b e) (hs : 0 ≤ s ∧ s ≤ e) (hK : KX μ b e s) (ha : qsl a ≤ 8) : ∃ r, fX5_isWord n a μ = some r ∧ (r = 1 ∧ isW b e s a ∨ r = 0 ∧ ¬ isW b e s a) := by
  have h1 := hb.1
  have hk := tkK_r b e s
  have hE := tkE_r (b := b) hs
  have hl := qsl_nn a
  obtain ⟨k1, k2, k3, -⟩ := hK
  unfold fX5_isWord
  by_cases c1 : tkK b e s = 1
  · rw [k3, c1, if_pos (show wr 1 = 1 from rfl), k2, k1]
    by_cases c2 : tkE b e s - s = qsl a
    · obtain ⟨y, r1, r2⟩ := x_wloop (l := qsl a) (g := qsc a) (w := wd a) (s := s) hn h hb (by omega) ⟨hl, ha⟩ k1 (fun k i1 i2 => qsc_in ⟨i1, i2⟩) (wd_w a)
      have r1' : lp (fun x : Int => bX5_isWord_28 n a x μ) n 0 = some y := r1
      rw [c2, if_pos rfl, r1', obs]
      rcases r2 with ⟨rfl, r2⟩ | ⟨rfl, r2⟩
      · exact ⟨1, rfl, Or.inl ⟨rfl, c1, c2, r2⟩⟩
      · exact ⟨0, rfl, Or.inr ⟨rfl, fun q => r2 q.2.2⟩⟩
    · rw [wr_id (by omega) (by omega), wr_id (by omega) (by omega), if_neg c2]
      exact ⟨0, rfl, Or.inr ⟨rfl, fun q => c2 q.2.1⟩⟩
  · rw [k3, wr_id (by omega) (by omega), if_neg c1]
    exact ⟨0, rfl, Or.inr ⟨rfl, fun q => c1 q.1⟩⟩
/-! errors -/
theorem x_fail (hK : KX μ b e s) (hs : 0 ≤ s ∧ s ≤ 400) {w : Int} (hw : 1 ≤ w ∧ w ≤ 9) : ∃ μ', fX5_fail w μ = some (0, μ') ∧ XE μ' (er b e s w) ∧ Fo 1 [7, 8] μ μ' := by
  have hk := tkK_r b e s
  obtain ⟨k1, -, k3, -⟩ := hK
  have e10 : ∀ v, rd (up μ 1 7 v) 1 10 = s := fun v => (rd_ni (by decide)).trans k1
  have h0 : 0 ≤ (if tkK b e s = 4 then 1 else w) ∧ (if tkK b e s = 4 then 1 else w) ≤ 9 := by split <;> omega
  refine ⟨up (up μ 1 7 (if tkK b e s = 4 then 1 else w)) 1 8 s, ?_, ⟨?_, ?_⟩, (Fo.up (by simp)).tr (Fo.up (by simp))⟩
  · simp (disch := omega) only [ite_true, fX5_fail, k3, wr_id, qPf_eq, e10, Option.bind_some]
  · rw [rd_ni (by decide), rd_at]
    exact wr_id (by omega) (by omega)
  · rw [rd_at]
    exact wr_id (by omega) (by omega)
/-! numbers -/
theorem x_expN (hb : TB b e) (hs : 0 ≤ s ∧ s ≤ e) (hK : KX μ b e s) {lo hi : Int} (hl : -100 ≤ lo ∧ lo ≤ 100) (hh : -100 ≤ hi ∧ hi ≤ 100) : (∃ p μ', pnum b e s lo hi = .inl p ∧ fX5_expectNumber lo hi μ = some (0, μ') ∧ XE μ' p ∧ Fo 1 [7, 8] μ μ') ∨ (pnum b e s lo hi = .inr (tkV b e s) ∧ (lo ≤ tkV b e s ∧ tkV b e s ≤ hi) ∧ rd μ 1 12 = tkV b e s ∧ fX5_expectNumber lo hi μ = some (1, μ)) := by
  have h1 := hb.1
  have hk := tkK_r b e s
  have k3 := hK.2.2.1
  by_cases c1 : tkK b e s = 2
  · have k4 := hK.2.2.2 c1
    have hv := tkV_r hb hs c1
    have c1' : rd μ 1 9 = 2 := k3.trans c1
    by_cases c2 : tkV b e s < lo
    · left
      obtain ⟨μ', a1, a2, a3⟩ := x_fail hK (by omega) (w := 3) (by omega)
      refine ⟨er b e s 3, μ', ?_, ?_, a2, a3⟩
      · unfold pnum
        rw [if_pos c1, if_pos (Or.inl c2)]
      · simp (disch := omega) only [ite_true, fX5_expectNumber, c1', k4, wr_id, if_pos, a1, Option.bind_some]
    · by_cases c3 : hi < tkV b e s
      · left
        obtain ⟨μ', a1, a2, a3⟩ := x_fail hK (by omega) (w := 3) (by omega)
        refine ⟨er b e s 3, μ', ?_, ?_, a2, a3⟩
        · unfold pnum
          rw [if_pos c1, if_pos (Or.inr c3)]
        · simp (disch := omega) only [ite_true, fX5_expectNumber, c1', k4, wr_id, if_pos, if_neg, a1, Option.bind_some]
      · right
        refine ⟨?_, by omega, k4, ?_⟩
        · unfold pnum
          rw [if_pos c1, if_neg (by omega)]
        · simp (disch := omega) only [ite_true, fX5_expectNumber, c1', k4, wr_id, if_pos, if_neg]
  · left
    obtain ⟨μ', a1, a2, a3⟩ := x_fail hK (by omega) (w := 2) (by omega)
    refine ⟨er b e s 2, μ', ?_, ?_, a2, a3⟩
    · unfold pnum
      rw [if_neg c1]
    · simp (disch := omega) only [ite_true, fX5_expectNumber, k3, wr_id, if_neg, a1, Option.bind_some]
      rfl
/-! semicolons -/
theorem x_semi (hK : KX μ b e s) (hs : 0 ≤ s ∧ s ≤ 400) : (tkK b e s = 3 ∧ fX5_expectSemicolon μ = some (1, μ)) ∨ (tkK b e s ≠ 3 ∧ ∃ μ', fX5_expectSemicolon μ = some (0, μ') ∧ XE μ' (er b e s 2) ∧ Fo 1 [7, 8] μ μ') := by
  have hk := tkK_r b e s
  have k3 := hK.2.2.1
  by_cases c1 : tkK b e s = 3
  · left
    refine ⟨c1, ?_⟩
    simp (disch := omega) only [ite_true, fX5_expectSemicolon, k3, c1, wr_id, if_pos]
  · right
    obtain ⟨μ', a1, a2, a3⟩ := x_fail hK hs (w := 2) (by omega)
    refine ⟨c1, μ', ?_, a2, a3⟩
    simp (disch := omega) only [ite_true, fX5_expectSemicolon, k3, wr_id, if_neg, if_pos, a1, Option.bind_some]
end WRD
