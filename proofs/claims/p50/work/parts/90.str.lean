/-! TEXTS AND THEIR BUILDERS -/
theorem qJk_cg {μ μ' : qMu} {a : Nat} (h : μ' (2000000 + a) = μ (2000000 + a)) : qJk μ' a = qJk μ a := by
  unfold qJk
  rw [h]
theorem qJl_cg {μ μ' : qMu} {a : Nat} (h : μ' (2000000 + a) = μ (2000000 + a)) : qJl μ' a = qJl μ a := by
  unfold qJl
  rw [h]
theorem qJn_cg {μ μ' : qMu} (h : μ' 2000000 = μ 2000000) : qJn μ' = qJn μ := by
  unfold qJn
  rw [h]
theorem qJs_cg {μ μ' : qMu} (h : μ' 2000000 = μ 2000000) : qJs μ' = qJs μ := by
  unfold qJs
  rw [h]
/-- what was there before w stays; so many cells and places more -/
def Gr (w x y : Nat) (μ μ' : qMu) : Prop := (qJn μ ≤ qJn μ' ∧ qJn μ' ≤ qJn μ + x ∧ qJs μ' ≤ qJs μ + y) ∧ ∀ a, a ≠ 2000000 → (a < w ∨ (1500 ≤ a ∧ a < 2000000 + w)) → μ' a = μ a
theorem Gr.rf (w : Nat) (μ : qMu) : Gr w 0 0 μ μ := ⟨⟨Nat.le_refl _, Nat.le_refl _, Nat.le_refl _⟩, fun _ _ _ => rfl⟩
theorem Gr.tr {w x y x' y' : Nat} {μ1 μ2 μ3 : qMu} (h1 : Gr w x y μ1 μ2) (h2 : Gr w x' y' μ2 μ3) : Gr w (x + x') (y + y') μ1 μ3 := by
  obtain ⟨⟨a1, a2, a3⟩, a4⟩ := h1
  obtain ⟨⟨b1, b2, b3⟩, b4⟩ := h2
  exact ⟨⟨by omega, by omega, by omega⟩, fun a q1 q2 => (b4 a q1 q2).trans (a4 a q1 q2)⟩
theorem Gr.wk {w w' x y x' y' : Nat} {μ1 μ2 : qMu} (h1 : Gr w x y μ1 μ2) (hw : w' ≤ w) (hx : x ≤ x') (hy : y ≤ y') : Gr w' x' y' μ1 μ2 := by
  obtain ⟨⟨a1, a2, a3⟩, a4⟩ := h1
  exact ⟨⟨a1, by omega, by omega⟩, fun a q1 q2 => a4 a q1 (by omega)⟩
theorem Gr.one {w a : Nat} {μ μ' : qMu} (h : ∀ b, b ≠ a → μ' b = μ b) (ha : (w ≤ a ∧ a < 1500) ∨ (2000000 + w ≤ a ∧ 2000000 < a)) : Gr w 0 0 μ μ' :=
  ⟨⟨by rw [qJn_cg (h 2000000 (by omega))]; exact Nat.le_refl _, by rw [qJn_cg (h 2000000 (by omega))]; exact Nat.le_refl _, by rw [qJs_cg (h 2000000 (by omega))]; exact Nat.le_refl _⟩, fun b _ hb => h b (by omega)⟩
theorem Gr.up {w a : Nat} {μ : qMu} {i v : Int} (ha : w ≤ a ∧ a < 1500) : Gr w 0 0 μ (up μ a i v) := Gr.one (fun _ hb => up_ne hb) (Or.inl ha)
theorem Gr.new {w k len sl : Nat} {μ : qMu} {f : Int → Int32} (hw : w ≤ 87 + qJn μ) (hn : qJn μ < 900) (hs : qJs μ < 90000) (hl : sl ≤ 5000) : Gr w 1 sl μ (qNewm μ f k len sl) :=
  ⟨⟨by rw [qNewm_n hn]; omega, by rw [qNewm_n hn]; omega, by rw [qNewm_s hn hs hl]; omega⟩, fun a h1 h2 => qNewm_o (by omega) (by omega) h1⟩
/-- a row of bytes that was made on the way -/
def Rw (μ : qMu) (v cap : Nat) (T : List Int) : Prop := (87 ≤ v ∧ v < 87 + qJn μ ∧ v < 1500) ∧ qJk μ v = 1 ∧ qJl μ v = cap ∧ (T.length ≤ cap ∧ cap ≤ 302) ∧ (∀ j : Nat, j < T.length → rd μ v (j : Int) = T.getD j 0) ∧ ∀ j : Nat, j < cap → 0 ≤ rd μ v (j : Int) ∧ rd μ v (j : Int) ≤ 127
theorem Rw.kp {μ μ' : qMu} {v cap : Nat} {T : List Int} (h : Rw μ v cap T) (h1 : μ' v = μ v) (h2 : μ' (2000000 + v) = μ (2000000 + v)) (h3 : qJn μ ≤ qJn μ') : Rw μ' v cap T := by
  obtain ⟨⟨a1, a2, a2'⟩, a3, a4, a5, a6, a7⟩ := h
  exact ⟨⟨a1, by omega, a2'⟩, (qJk_cg h2).trans a3, (qJl_cg h2).trans a4, a5, fun j hj => (rd_cg h1 _).trans (a6 j hj), fun j hj => by rw [rd_cg h1]; exact a7 j hj⟩
theorem Rw.src {μ : qMu} {v cap : Nat} {T : List Int} (h : Rw μ v cap T) : qSrc μ v = some (cap, fun j : Nat => μ v (j : Int)) := by
  unfold qSrc
  rw [if_neg (by have := h.1; omega), if_pos ⟨h.1, h.2.1⟩, h.2.2.1]
theorem Rw.len {μ : qMu} {v cap : Nat} {T : List Int} (h : Rw μ v cap T) : qAn μ v = some (cap : Int) := by
  unfold qAn
  rw [if_neg (fun q => by have := q.2; rw [h.2.1] at this; omega), h.src]
  rfl
theorem fit_b {x : Int32} (h : -128 ≤ x.toInt ∧ x.toInt ≤ 127) : fits .byte (.int x) = true := by
  have e1 : (-128 : Int32).toInt = -128 := rfl
  have e2 : (127 : Int32).toInt = 127 := rfl
  show (decide (-128 ≤ x) && decide (x ≤ 127)) = true
  rw [Bool.and_eq_true, decide_eq_true_eq, decide_eq_true_eq, Int32.le_iff_toInt_le, Int32.le_iff_toInt_le, e1, e2]
  exact h
/-- a text s: one of the ten, or made before w -/
def St (μ : qMu) (w s : Nat) (T : List Int) : Prop := (T.length ≤ 100 ∧ ∀ j : Nat, j < T.length → 0 ≤ T.getD j 0 ∧ T.getD j 0 ≤ 127) ∧ ((qistr s = true ∧ qStr (s - 1000000) = T) ∨ ((87 ≤ s ∧ s < w ∧ w ≤ 87 + qJn μ ∧ w ≤ 1500) ∧ qJk μ s = 2 ∧ rd μ s 1 = 0 ∧ qJl μ s < w ∧ Rw μ (qJl μ s) T.length T))
theorem St.kp {μ μ' : qMu} {w w' x y s : Nat} {T : List Int} (h : St μ w s T) (f : Gr w x y μ μ') (hw : w ≤ w' ∧ w' ≤ 87 + qJn μ' ∧ w' ≤ 1500) : St μ' w' s T := by
  refine ⟨h.1, ?_⟩
  rcases h.2 with h1 | ⟨⟨h1, h2, h3, h3'⟩, h4, h5, h6, h7⟩
  · exact Or.inl h1
  · have e1 : μ' (2000000 + s) = μ (2000000 + s) := f.2 _ (by omega) (by omega)
    have e2 : qJl μ' s = qJl μ s := qJl_cg e1
    have h8 := h7.1
    refine Or.inr ⟨⟨h1, by omega, hw.2.1, hw.2.2⟩, (qJk_cg e1).trans h4, (rd_cg (f.2 s (by omega) (by omega)) 1).trans h5, by omega, ?_⟩
    rw [e2]
    exact h7.kp (f.2 _ (by omega) (by omega)) (f.2 _ (by omega) (by omega)) f.1.1
/-- what the methods see of a text -/
theorem St.is {μ : qMu} {w s : Nat} {T : List Int} (h : St μ w s T) : qCk μ s 10 = some () ∧ fJ0_coder_7d493 s μ = some 0 ∧ ∃ v f, qGr μ s 10 = some v ∧ qSrc μ v = some (T.length, f) ∧ qAn μ v = some (T.length : Int) ∧ (∀ j : Nat, j < T.length → (f j).toInt = T.getD j 0) ∧ (v < w ∨ 2000 ≤ v) := by
  rcases h.2 with ⟨h1, h2⟩ | ⟨⟨h1, h2, h3, h3'⟩, h4, h5, h6, h7⟩
  · have hr := qistr_rg h1
    have e1 : qGi μ s 10 1 = some 0 := if_pos ⟨rfl, h1, rfl⟩
    have es : qSrc μ (s + 100) = some (T.length, qxt (s - 1000000)) := by
      unfold qSrc qxb qxl
      rw [if_pos (by omega), if_neg (by omega), if_pos (by omega), show s + 100 - 1000100 = s - 1000000 by omega, h2]
    refine ⟨if_pos ⟨rfl, h1⟩, ?_, s + 100, qxt (s - 1000000), if_pos ⟨rfl, h1⟩, es, ?_, fun j hj => ?_, Or.inr (by omega)⟩
    · unfold fJ0_coder_7d493
      rw [e1, obs]
      rfl
    · unfold qAn
      rw [if_neg (fun q => by have := q.1; omega), es]
      rfl
    · unfold qxt
      rw [h2]
      have := h.1.2 j hj
      exact wr_id (by omega) (by omega)
  · have e0 : ¬ (10 = 10 ∧ qistr s = true) := fun q => by have := qistr_rg q.2; omega
    have e1 : qGi μ s 10 1 = some 0 := by
      unfold qGi
      rw [if_neg (fun q => e0 ⟨q.1, q.2.1⟩), if_pos ⟨⟨⟨h1, by omega, by omega⟩, Or.inl ⟨rfl, Or.inl h4⟩⟩, by omega, by omega⟩, h5]
    refine ⟨?_, ?_, qJl μ s, _, ?_, h7.src, h7.len, fun j hj => h7.2.2.2.2.1 j hj, Or.inl h6⟩
    · unfold qCk
      rw [if_neg e0, if_pos ⟨⟨h1, by omega, by omega⟩, Or.inl ⟨rfl, Or.inl h4⟩⟩]
    · unfold fJ0_coder_7d493
      rw [e1, obs]
      rfl
    · unfold qGr
      rw [if_neg e0, if_pos ⟨⟨h1, by omega, by omega⟩, Or.inl ⟨rfl, h4⟩⟩]
theorem sh_all : ∀ k : Nat, k < 1000 → ishl (k : Int) 0 = (k : Int) ∧ ishr (k : Int) 0 = (k : Int) := by decide +kernel
theorem sh_0 {k : Int} (h : 0 ≤ k ∧ k < 1000) : ishl k 0 = k ∧ ishr k 0 = k := by
  have := sh_all k.toNat (by omega)
  rw [show ((k.toNat : Nat) : Int) = k by omega] at this
  exact this
theorem sh_2 : ishl 2 0 = 2 := rfl
theorem St.len {μ : qMu} {w s : Nat} {T : List Int} (h : St μ w s T) : fJ0_length_8abf5 s μ = some (T.length : Int) := by
  obtain ⟨h1, h2, v, f, h3, h4, h5, h6, h7⟩ := h.is
  have hl := h.1.1
  unfold fJ0_length_8abf5
  rw [h3, obs, h5, obs, h1, obs, h2, obs, (sh_0 (by omega)).2]
/-- a builder b: its row v holds T -/
def Bl (μ : qMu) (w b v cap : Nat) (T : List Int) : Prop := (w ≤ b ∧ w ≤ v ∧ v ≠ b) ∧ (87 ≤ b ∧ b < 87 + qJn μ ∧ b < 1500) ∧ qJk μ b = 3 ∧ qJl μ b = v ∧ rd μ b 1 = 0 ∧ rd μ b 3 = (T.length : Int) ∧ Rw μ v cap T
section BLD
variable {μ : qMu} {n w b v cap s : Nat} {T S : List Int} {M : Int}
theorem Bl.is (h : Bl μ w b v cap T) : qCn μ b 11 = some () ∧ qCk μ b 11 = some () ∧ qGi μ b 11 1 = some 0 ∧ qGi μ b 11 3 = some (T.length : Int) ∧ qGr μ b 11 = some v := by
  obtain ⟨h1, h2, h3, h4, h5, h6, h7⟩ := h
  refine ⟨?_, ?_, ?_, ?_, ?_⟩
  · unfold qCn
    rw [if_pos ⟨h2, Or.inr ⟨rfl, Or.inl h3⟩⟩]
  · unfold qCk
    rw [if_neg (fun q => absurd q.1 (by decide)), if_pos ⟨h2, Or.inr ⟨rfl, Or.inl h3⟩⟩]
  · unfold qGi
    rw [if_neg (fun q => absurd q.1 (by decide)), if_pos ⟨⟨h2, Or.inr ⟨rfl, Or.inl h3⟩⟩, by omega, by omega⟩, h5]
  · unfold qGi
    rw [if_neg (fun q => absurd q.1 (by decide)), if_pos ⟨⟨h2, Or.inr ⟨rfl, Or.inl h3⟩⟩, by omega, by omega⟩, h6]
  · unfold qGr
    rw [if_neg (fun q => absurd q.1 (by decide)), if_pos ⟨h2, Or.inr ⟨rfl, h3⟩⟩, h4]
theorem Bl.kp {μ' : qMu} (h : Bl μ w b v cap T) (h1 : μ' b = μ b) (h2 : μ' (2000000 + b) = μ (2000000 + b)) (h3 : μ' v = μ v) (h4 : μ' (2000000 + v) = μ (2000000 + v)) (h5 : qJn μ ≤ qJn μ') : Bl μ' w b v cap T := by
  obtain ⟨a1, ⟨a2, a2', a2''⟩, a3, a4, a5, a6, a7⟩ := h
  exact ⟨a1, ⟨a2, by omega, a2''⟩, (qJk_cg h2).trans a3, (qJl_cg h2).trans a4, (rd_cg h1 1).trans a5, (rd_cg h1 3).trans a6, a7.kp h3 h4 h5⟩
/-- a new row of bytes -/
theorem nw_row (hn : qJn μ < 800) (hs : qJs μ < 80000) (hM : 0 ≤ M ∧ M ≤ 302) : qNw μ 1 M = some (87 + qJn μ, qNewm μ (fun _ => 0) 1 M.toNat M.toNat) ∧ Rw (qNewm μ (fun _ => 0) 1 M.toNat M.toNat) (87 + qJn μ) M.toNat [] ∧ ∀ j, rd (qNewm μ (fun _ => 0) 1 M.toNat M.toNat) (87 + qJn μ) j = 0 := by
  have e : ∀ j, rd (qNewm μ (fun _ => 0) 1 M.toNat M.toNat) (87 + qJn μ) j = 0 := fun j => by
    unfold rd
    rw [qNewm_f]
    rfl
  refine ⟨if_pos ⟨by omega, by omega, by omega⟩, ⟨⟨by omega, by rw [qNewm_n (by omega)]; omega, by omega⟩, qNewm_k (by omega) (by omega), qNewm_l (by omega) (by omega), ⟨Nat.zero_le _, by omega⟩, fun j hj => absurd hj (Nat.not_lt_zero _), fun j _ => ?_⟩, e⟩
  rw [e]
  omega
/-- bytes copied into a row -/
theorem cp_row {f : Nat → Int32} {u : Nat} {sp dp l : Int} (hv : Rw μ v cap T) (hu : qSrc μ u = some (s, f)) (hs5 : s ≤ 400) (hne : u ≠ v) (h1 : 0 ≤ sp ∧ 0 ≤ dp ∧ 0 ≤ l ∧ sp + l ≤ (s : Int)) (h2 : dp + l ≤ (cap : Int)) (hf : ∀ j : Nat, j < s → 0 ≤ (f j).toInt ∧ (f j).toInt ≤ 127) : qCp μ u sp v dp l = some (qCpm μ f sp v dp l) := by
  obtain ⟨a1, a2, a3, a4, a5, a6⟩ := hv
  unfold qCp
  rw [hu]
  have hall : (List.range l.toNat).all (fun i => fits .byte (.int (f (sp.toNat + i)))) = true := by
    refine List.all_eq_true.mpr (fun i hi => ?_)
    have := List.mem_range.mp hi
    have := hf (sp.toNat + i) (by omega)
    exact fit_b (by omega)
  show (if _ then _ else _) = _
  rw [if_pos ⟨⟨h1.1, h1.2.1, h1.2.2.1, h1.2.2.2, by omega⟩, ⟨a1, a2⟩, ⟨by omega, by omega⟩, hne, hall⟩]
theorem cpm_ne {f : Nat → Int32} {sp dp l : Int} {a : Nat} (h : a ≠ v) : qCpm μ f sp v dp l a = μ a := if_neg h
theorem cpm_at {f : Nat → Int32} {sp dp l j : Int} : rd (qCpm μ f sp v dp l) v j = if dp ≤ j ∧ j < dp + l then (f (sp + (j - dp)).toNat).toInt else rd μ v j := by
  unfold rd qCpm
  rw [if_pos rfl]
  by_cases h : dp ≤ j ∧ j < dp + l
  · rw [if_pos h, if_pos h]
  · rw [if_neg h, if_neg h]
end BLD
