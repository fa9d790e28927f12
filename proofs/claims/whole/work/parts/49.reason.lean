/-! SWITCHES: reasons, codes -/
def rsn (m : Int) (c : Int → Int → Int) (a b x y : Int) : Int := if c a b = 0 then 1 else if c x y - (if (a = x ∧ b = y) ∨ (a = y ∧ b = x) then 1 else 0) < 1 then 2 else if a = y ∨ b = x then 3 else if m ≠ 0 ∧ (a = x ∨ b = y) then 4 else if m = 2 ∧ (0 < c a x ∨ 0 < c b y ∨ (a = b ∧ x = y)) then 5 else 0
def cd (a b x y : Int) : Int := ((a * 8 + b) * 8 + x) * 8 + y
def frs (a b x y : Int) : Prop := cd a b x y ≤ cd b a y x ∧ cd a b x y ≤ cd x y a b ∧ cd a b x y ≤ cd y x b a
theorem wr_ite {p : Prop} {i : Decidable p} {x y : Int} : wr (@ite _ p i x y) = @ite _ p i (wr x) (wr y) := by split <;> rfl
theorem wr_0 : wr 0 = 0 := rfl
theorem wr_1 : wr 1 = 1 := rfl
theorem wr_2 : wr 2 = 2 := rfl
section RSN
variable {μ : qMu} {g n : Nat} {N m : Int} {c t : Int → Int → Int} {a b x y : Int}
theorem rsn_r (m : Int) (c : Int → Int → Int) (a b x y : Int) : 0 ≤ rsn m c a b x y ∧ rsn m c a b x y ≤ 5 := by
  unfold rsn
  split
  · omega
  · split
    · omega
    · split
      · omega
      · split
        · omega
        · split <;> omega
theorem x_reason (h : GX μ g N c) (hV : Vd N c) (hm : 0 ≤ m ∧ m ≤ 2) (ha : 0 ≤ a ∧ a < 8) (hb : 0 ≤ b ∧ b < 8) (hx : 0 ≤ x ∧ x < 8) (hy : 0 ≤ y ∧ y < 8) : fX1_reasonAgainst g m a b x y μ = some (rsn m c a b x y) := by
  have r1 := hV.r a b
  have r2 := hV.r x y
  have r3 := hV.r a x
  have r4 := hV.r b y
  have es : (if a = x then if b = y then (1 : Int) else if a = y then if b = x then 1 else 0 else 0 else if a = y then if b = x then 1 else 0 else 0) = if (a = x ∧ b = y) ∨ (a = y ∧ b = x) then 1 else 0 := by
    by_cases q1 : a = x <;> by_cases q2 : b = y <;> by_cases q3 : a = y <;> by_cases q4 : b = x <;> simp [q1, q2, q3, q4]
  have ed : (if a = b then if x = y then (1 : Int) else 0 else 0) = if a = b ∧ x = y then 1 else 0 := by
    by_cases q1 : a = b <;> by_cases q2 : x = y <;> simp [q1, q2]
  have wa : wr a = a := wr_id (by omega) (by omega)
  have wb : wr b = b := wr_id (by omega) (by omega)
  have wx : wr x = x := wr_id (by omega) (by omega)
  have wy : wr y = y := wr_id (by omega) (by omega)
  have wm : wr m = m := wr_id (by omega) (by omega)
  simp only [fX1_reasonAgainst, x_between h ha hb, x_between h hx hy, x_between h ha hx, x_between h hb hy, Option.bind_some, hV.w, wa, wb, wx, wy, wm, wr_ite, wr_0, wr_1, wr_2]
  unfold rsn
  by_cases c1 : c a b = 0
  · rw [if_pos c1, if_pos c1]
  · rw [if_neg c1, if_neg c1, es]
    by_cases c2 : c x y - (if (a = x ∧ b = y) ∨ (a = y ∧ b = x) then 1 else 0) < 1
    · rw [if_pos c2, if_pos (by split at c2 <;> rename_i q <;> simp [q] <;> omega)]
    · rw [if_neg c2, if_neg (by split at c2 <;> rename_i q <;> simp [q] <;> omega)]
      by_cases c3 : a = y
      · rw [if_pos c3, if_pos (Or.inl c3)]
      · rw [if_neg c3]
        by_cases c4 : b = x
        · rw [if_pos c4, if_pos (Or.inr c4)]
        · rw [if_neg c4, if_neg (show ¬ (a = y ∨ b = x) from fun q => q.elim c3 c4)]
          by_cases c5 : m = 0
          · rw [if_pos c5, if_neg (show ¬ (m ≠ 0 ∧ (a = x ∨ b = y)) from fun q => q.1 c5), if_neg (show ¬ (m = 2 ∧ (0 < c a x ∨ 0 < c b y ∨ (a = b ∧ x = y))) from fun q => by omega)]
            by_cases c6 : 0 < c a x
            · rw [if_pos c6]
              simp only [Option.bind_some]
              rw [if_neg (show ¬ m = 2 by omega)]
            · rw [if_neg c6]
              by_cases c7 : 0 < c b y
              · rw [if_pos c7]
                simp only [Option.bind_some]
                rw [if_neg (show ¬ m = 2 by omega)]
              · rw [if_neg c7]
                simp only [Option.bind_some]
                rw [if_neg (show ¬ m = 2 by omega)]
          · rw [if_neg c5]
            by_cases c6 : a = x
            · rw [if_pos c6, if_pos (show m ≠ 0 ∧ (a = x ∨ b = y) from ⟨c5, Or.inl c6⟩)]
            · rw [if_neg c6]
              by_cases c7 : b = y
              · rw [if_pos c7, if_pos (show m ≠ 0 ∧ (a = x ∨ b = y) from ⟨c5, Or.inr c7⟩)]
              · rw [if_neg c7, if_neg (show ¬ (m ≠ 0 ∧ (a = x ∨ b = y)) from fun q => q.2.elim c6 c7), ed]
                by_cases c8 : m = 2
                · by_cases d1 : 0 < c a x
                  · rw [if_pos d1, if_pos (show m = 2 ∧ (0 < c a x ∨ 0 < c b y ∨ (a = b ∧ x = y)) from ⟨c8, Or.inl d1⟩)]
                    simp [c8, wr_id]
                  · rw [if_neg d1]
                    by_cases d2 : 0 < c b y
                    · rw [if_pos d2, if_pos (show m = 2 ∧ (0 < c a x ∨ 0 < c b y ∨ (a = b ∧ x = y)) from ⟨c8, Or.inr (Or.inl d2)⟩)]
                      simp [c8, wr_id]
                    · rw [if_neg d2]
                      by_cases d3 : a = b ∧ x = y
                      · rw [if_pos d3, if_pos (show m = 2 ∧ (0 < c a x ∨ 0 < c b y ∨ (a = b ∧ x = y)) from ⟨c8, Or.inr (Or.inr d3)⟩)]
                        simp [c8, wr_id]
                      · rw [if_neg d3, if_neg (show ¬ (m = 2 ∧ (0 < c a x ∨ 0 < c b y ∨ (a = b ∧ x = y))) from fun q => q.2.elim d1 (fun q => q.elim d2 d3))]
                        simp [c8, wr_id]
                · rw [if_neg (show ¬ (m = 2 ∧ (0 < c a x ∨ 0 < c b y ∨ (a = b ∧ x = y))) from fun q => c8 q.1)]
                  by_cases d1 : 0 < c a x
                  · rw [if_pos d1]
                    simp only [Option.bind_some]
                    rw [if_neg c8]
                  · rw [if_neg d1]
                    by_cases d2 : 0 < c b y
                    · rw [if_pos d2]
                      simp only [Option.bind_some]
                      rw [if_neg c8]
                    · rw [if_neg d2]
                      simp only [Option.bind_some]
                      rw [if_neg c8]
theorem addc_4 {c : Int → Int → Int} {a b x y : Int} : addc (addc (addc (addc c a b (-1)) x y (-1)) a b 1) x y 1 = c := by
  funext u v
  rw [addc_pl, addc_pl, addc_pl, addc_pl]
  split <;> split <;> omega
theorem Bd.ad {c : Int → Int → Int} {B : Int} (h : ∀ u v, -B ≤ c u v ∧ c u v ≤ B) (u v k : Int) (hk : -1 ≤ k ∧ k ≤ 1) (hB : 0 ≤ B) : ∀ i j, -(B + 1) ≤ addc c u v k i j ∧ addc c u v k i j ≤ B + 1 := by
  intro i j
  rw [addc_pl]
  have := h i j
  split <;> omega
/-- four edges put or taken, one behind the other -/
theorem m_four (h : SM μ N m c t) (hV : Vd N c) (hV' : Vd N t) (u1 v1 u2 v2 u3 v3 u4 v4 k1 k2 k3 k4 : Int) (g1 : (0 ≤ u1 ∧ u1 < 8) ∧ (0 ≤ v1 ∧ v1 < 8)) (g2 : (0 ≤ u2 ∧ u2 < 8) ∧ (0 ≤ v2 ∧ v2 < 8)) (g3 : (0 ≤ u3 ∧ u3 < 8) ∧ (0 ≤ v3 ∧ v3 < 8)) (g4 : (0 ≤ u4 ∧ u4 < 8) ∧ (0 ≤ v4 ∧ v4 < 8)) (hk : (-1 ≤ k1 ∧ k1 ≤ 1) ∧ (-1 ≤ k2 ∧ k2 ≤ 1) ∧ (-1 ≤ k3 ∧ k3 ≤ 1) ∧ (-1 ≤ k4 ∧ k4 ≤ 1)) : ∃ μ1 μ2 μ3 μ4, fX10_adds 2 u1 v1 k1 μ = some μ1 ∧ fX10_adds 2 u2 v2 k2 μ1 = some μ2 ∧ fX10_adds 2 u3 v3 k3 μ2 = some μ3 ∧ fX10_adds 2 u4 v4 k4 μ3 = some μ4 ∧ SM μ2 N m (addc (addc c u1 v1 k1) u2 v2 k2) t ∧ SM μ4 N m (addc (addc (addc (addc c u1 v1 k1) u2 v2 k2) u3 v3 k3) u4 v4 k4) t ∧ Fr [79] μ μ4 := by
  have b0 : ∀ u v, -16 ≤ c u v ∧ c u v ≤ 16 := fun u v => by have := hV.r u v; omega
  have b1 := Bd.ad b0 u1 v1 k1 hk.1 (by omega)
  have b2 := Bd.ad b1 u2 v2 k2 hk.2.1 (by omega)
  have b3 := Bd.ad b2 u3 v3 k3 hk.2.2.1 (by omega)
  obtain ⟨μ1, p1, p2, p3⟩ := m_adds h (Or.inl rfl) (fun u v => by have := b0 u v; omega) hV'.bd g1.1 g1.2 (k := k1) (by omega)
  rw [if_pos rfl, if_pos rfl] at p2
  obtain ⟨μ2, q1, q2, q3⟩ := m_adds p2 (Or.inl rfl) (fun u v => by have := b1 u v; omega) hV'.bd g2.1 g2.2 (k := k2) (by omega)
  rw [if_pos rfl, if_pos rfl] at q2
  obtain ⟨μ3, r1, r2, r3⟩ := m_adds q2 (Or.inl rfl) (fun u v => by have := b2 u v; omega) hV'.bd g3.1 g3.2 (k := k3) (by omega)
  rw [if_pos rfl, if_pos rfl] at r2
  obtain ⟨μ4, s1, s2, s3⟩ := m_adds r2 (Or.inl rfl) (fun u v => by have := b3 u v; omega) hV'.bd g4.1 g4.2 (k := k4) (by omega)
  rw [if_pos rfl, if_pos rfl] at s2
  exact ⟨μ1, μ2, μ3, μ4, p1, q1, r1, s1, q2, s2, ((p3.tr q3).tr r3).tr s3⟩
theorem m_isSamePair (ha : 0 ≤ a ∧ a < 8) (hb : 0 ≤ b ∧ b < 8) (hx : 0 ≤ x ∧ x < 8) (hy : 0 ≤ y ∧ y < 8) : fX10_isSamePair a b x y μ = some (if (a = x ∧ b = y) ∨ (a = y ∧ b = x) then 1 else 0) := by
  simp (disch := omega) only [fX10_isSamePair, wr_id]
  repeat' split
  all_goals first
    | rfl
    | omega
theorem m_reasonBy {p : Int} (h : SM μ N m c t) (hV : Vd N c) (hV' : Vd N t) (hm : 0 ≤ p ∧ p ≤ 2) (ha : 0 ≤ a ∧ a < 8) (hb : 0 ≤ b ∧ b < 8) (hx : 0 ≤ x ∧ x < 8) (hy : 0 ≤ y ∧ y < 8) : ∃ μ', fX10_reasonBy p a b x y μ = some (rsn p c a b x y, μ') ∧ SM μ' N m c t ∧ Fr [79] μ μ' := by
  have r1 := hV.r a b
  have r2 := hV.r x y
  have r3 := hV.r a x
  have r4 := hV.r b y
  have wa : wr a = a := wr_id (by omega) (by omega)
  have wb : wr b = b := wr_id (by omega) (by omega)
  have wx : wr x = x := wr_id (by omega) (by omega)
  have wy : wr y = y := wr_id (by omega) (by omega)
  have wp : wr p = p := wr_id (by omega) (by omega)
  have w3 : ∀ q : Int, (q = 0 ∨ q = 1) → wr (c x y - q) = c x y - q := fun q hq => wr_id (by omega) (by omega)
  have e2 : (if (if (a = x ∧ b = y) ∨ (a = y ∧ b = x) then (1 : Int) else 0) = 0 then (0 : Int) else 1) = if (a = x ∧ b = y) ∨ (a = y ∧ b = x) then 1 else 0 := by
    by_cases q : (a = x ∧ b = y) ∨ (a = y ∧ b = x) <;> simp [q]
  simp only [fX10_reasonBy, m_many h.2.2.1 (Or.inl rfl) ha hb, m_many h.2.2.1 (Or.inl rfl) hx hy, Option.bind_some, hV.w, wa, wb, wx, wy, wp, m_isSamePair ha hb hx hy, wr_ite, wr_0, wr_1]
  rw [e2, w3 _ (by split <;> simp)]
  unfold rsn
  by_cases c1 : c a b = 0
  · rw [if_pos c1, if_pos c1]
    exact ⟨μ, rfl, h, Fr.rf _ _⟩
  · rw [if_neg c1, if_neg c1]
    by_cases c2 : c x y - (if (a = x ∧ b = y) ∨ (a = y ∧ b = x) then 1 else 0) < 1
    · rw [if_pos c2, if_pos c2]
      exact ⟨μ, rfl, h, Fr.rf _ _⟩
    · rw [if_neg c2, if_neg c2]
      by_cases c3 : a = y
      · rw [if_pos c3, if_pos (Or.inl c3)]
        exact ⟨μ, rfl, h, Fr.rf _ _⟩
      · rw [if_neg c3]
        by_cases c4 : b = x
        · rw [if_pos c4, if_pos (Or.inr c4)]
          exact ⟨μ, rfl, h, Fr.rf _ _⟩
        · rw [if_neg c4, if_neg (show ¬ (a = y ∨ b = x) from fun q => q.elim c3 c4)]
          by_cases c5 : p = 0
          · rw [if_neg (show ¬ 0 < p by omega), if_neg (show ¬ p = 2 by omega), if_neg (show ¬ (p ≠ 0 ∧ (a = x ∨ b = y)) from fun q => q.1 c5), if_neg (show ¬ (p = 2 ∧ (0 < c a x ∨ 0 < c b y ∨ (a = b ∧ x = y))) from fun q => by omega)]
            exact ⟨μ, rfl, h, Fr.rf _ _⟩
          · rw [if_pos (show 0 < p by omega)]
            by_cases c6 : a = x
            · rw [if_pos c6, if_pos (show p ≠ 0 ∧ (a = x ∨ b = y) from ⟨c5, Or.inl c6⟩)]
              exact ⟨μ, rfl, h, Fr.rf _ _⟩
            · rw [if_neg c6]
              by_cases c7 : b = y
              · rw [if_pos c7, if_pos (show p ≠ 0 ∧ (a = x ∨ b = y) from ⟨c5, Or.inr c7⟩)]
                exact ⟨μ, rfl, h, Fr.rf _ _⟩
              · rw [if_neg c7, if_neg (show ¬ (p ≠ 0 ∧ (a = x ∨ b = y)) from fun q => q.2.elim c6 c7)]
                by_cases c8 : p = 2
                · rw [if_pos c8]
                  obtain ⟨μ1, μ2, μ3, μ4, p1, p2, p3, p4, p5, p6, p7⟩ := m_four h hV hV' a b x y a b x y (-1) (-1) 1 1 ⟨ha, hb⟩ ⟨hx, hy⟩ ⟨ha, hb⟩ ⟨hx, hy⟩ ⟨by omega, by omega, by omega, by omega⟩
                  rw [addc_4] at p6
                  have e3 : addc (addc c a b (-1)) x y (-1) a x = c a x := by
                    rw [addc_pl, addc_pl, if_neg (by omega), if_neg (by omega)]
                    omega
                  have e4 : addc (addc c a b (-1)) x y (-1) b y = c b y := by
                    rw [addc_pl, addc_pl, if_neg (by omega), if_neg (by omega)]
                    omega
                  refine ⟨μ4, ?_, p6, p7⟩
                  simp only [fX10_wouldDouble, p1, p2, Option.bind_some, m_many p5.2.2.1 (Or.inl rfl) ha hx, m_many p5.2.2.1 (Or.inl rfl) hb hy, e3, e4, hV.w, m_isSamePair ha hx hb hy, wr_ite, wr_0, wr_1]
                  by_cases d1 : 0 < c a x
                  · rw [if_pos d1, if_pos (show p = 2 ∧ (0 < c a x ∨ 0 < c b y ∨ (a = b ∧ x = y)) from ⟨c8, Or.inl d1⟩)]
                    simp [p3, p4, qbl, wr_id]
                  · rw [if_neg d1]
                    by_cases d2 : 0 < c b y
                    · rw [if_pos d2, if_pos (show p = 2 ∧ (0 < c a x ∨ 0 < c b y ∨ (a = b ∧ x = y)) from ⟨c8, Or.inr (Or.inl d2)⟩)]
                      simp [p3, p4, qbl, wr_id]
                    · rw [if_neg d2]
                      by_cases d3 : a = b ∧ x = y
                      · rw [if_pos (Or.inl d3), if_pos (show p = 2 ∧ (0 < c a x ∨ 0 < c b y ∨ (a = b ∧ x = y)) from ⟨c8, Or.inr (Or.inr d3)⟩)]
                        simp [p3, p4, qbl, wr_id]
                      · rw [if_neg (show ¬ ((a = b ∧ x = y) ∨ (a = y ∧ x = b)) by omega), if_neg (show ¬ (p = 2 ∧ (0 < c a x ∨ 0 < c b y ∨ (a = b ∧ x = y))) from fun q => q.2.elim d1 (fun q => q.elim d2 d3))]
                        simp [p3, p4, qbl, wr_id]
                · rw [if_neg c8, if_neg (show ¬ (p = 2 ∧ (0 < c a x ∨ 0 < c b y ∨ (a = b ∧ x = y))) from fun q => c8 q.1)]
                  exact ⟨μ, rfl, h, Fr.rf _ _⟩
end RSN
/-! codes -/
theorem part_all0 : ∀ p : Nat, p < 64 → ∀ q : Nat, q < 64 → ian (ishr ((64 * p + q : Nat) : Int) 9) 7 = (((64 * p + q) / 512 % 8 : Nat) : Int) ∧ ian (ishr ((64 * p + q : Nat) : Int) 6) 7 = (((64 * p + q) / 64 % 8 : Nat) : Int) ∧ ian (ishr ((64 * p + q : Nat) : Int) 3) 7 = (((64 * p + q) / 8 % 8 : Nat) : Int) ∧ ian (ishr ((64 * p + q : Nat) : Int) 0) 7 = (((64 * p + q) % 8 : Nat) : Int) := by decide +kernel
theorem of_all0 : ∀ p : Nat, p < 64 → ∀ q : Nat, q < 64 → io (ishl (io (ishl (io (ishl (((64 * p + q) / 512 % 8 : Nat) : Int) 3) (((64 * p + q) / 64 % 8 : Nat) : Int)) 3) (((64 * p + q) / 8 % 8 : Nat) : Int)) 3) (((64 * p + q) % 8 : Nat) : Int) = ((64 * p + q : Nat) : Int) := by decide +kernel
theorem part_all (k : Nat) (hk : k < 4096) : ian (ishr (k : Int) 9) 7 = ((k / 512 % 8 : Nat) : Int) ∧ ian (ishr (k : Int) 6) 7 = ((k / 64 % 8 : Nat) : Int) ∧ ian (ishr (k : Int) 3) 7 = ((k / 8 % 8 : Nat) : Int) ∧ ian (ishr (k : Int) 0) 7 = ((k % 8 : Nat) : Int) := by
  have h := part_all0 (k / 64) (by omega) (k % 64) (by omega)
  rw [show 64 * (k / 64) + k % 64 = k by omega] at h
  exact h
theorem of_all (k : Nat) (hk : k < 4096) : io (ishl (io (ishl (io (ishl ((k / 512 % 8 : Nat) : Int) 3) ((k / 64 % 8 : Nat) : Int)) 3) ((k / 8 % 8 : Nat) : Int)) 3) ((k % 8 : Nat) : Int) = (k : Int) := by
  have h := of_all0 (k / 64) (by omega) (k % 64) (by omega)
  rw [show 64 * (k / 64) + k % 64 = k by omega] at h
  exact h
theorem cd_r {a b x y : Int} (ha : 0 ≤ a ∧ a < 8) (hb : 0 ≤ b ∧ b < 8) (hx : 0 ≤ x ∧ x < 8) (hy : 0 ≤ y ∧ y < 8) : 0 ≤ cd a b x y ∧ cd a b x y < 4096 := by
  unfold cd
  omega
theorem of_cd {a b x y : Int} (ha : 0 ≤ a ∧ a < 8) (hb : 0 ≤ b ∧ b < 8) (hx : 0 ≤ x ∧ x < 8) (hy : 0 ≤ y ∧ y < 8) : io (ishl (io (ishl (io (ishl a 3) b) 3) x) 3) y = cd a b x y := by
  have h := of_all (cd a b x y).toNat (by have := cd_r ha hb hx hy; omega)
  have e : (((cd a b x y).toNat : Nat) : Int) = cd a b x y := by have := cd_r ha hb hx hy; omega
  rw [e] at h
  have e0 : cd a b x y = ((a * 8 + b) * 8 + x) * 8 + y := rfl
  rw [show (((cd a b x y).toNat / 512 % 8 : Nat) : Int) = a by omega, show (((cd a b x y).toNat / 64 % 8 : Nat) : Int) = b by omega, show (((cd a b x y).toNat / 8 % 8 : Nat) : Int) = x by omega, show (((cd a b x y).toNat % 8 : Nat) : Int) = y by omega] at h
  exact h
theorem part_cd {a b x y : Int} (ha : 0 ≤ a ∧ a < 8) (hb : 0 ≤ b ∧ b < 8) (hx : 0 ≤ x ∧ x < 8) (hy : 0 ≤ y ∧ y < 8) : ian (ishr (cd a b x y) 9) 7 = a ∧ ian (ishr (cd a b x y) 6) 7 = b ∧ ian (ishr (cd a b x y) 3) 7 = x ∧ ian (ishr (cd a b x y) 0) 7 = y := by
  have h := part_all (cd a b x y).toNat (by have := cd_r ha hb hx hy; omega)
  have e : (((cd a b x y).toNat : Nat) : Int) = cd a b x y := by have := cd_r ha hb hx hy; omega
  rw [e] at h
  have e0 : cd a b x y = ((a * 8 + b) * 8 + x) * 8 + y := rfl
  rw [show (((cd a b x y).toNat / 512 % 8 : Nat) : Int) = a by omega, show (((cd a b x y).toNat / 64 % 8 : Nat) : Int) = b by omega, show (((cd a b x y).toNat / 8 % 8 : Nat) : Int) = x by omega, show (((cd a b x y).toNat % 8 : Nat) : Int) = y by omega] at h
  exact h
theorem cd_of {k : Int} (hk : 0 ≤ k ∧ k < 4096) : k = cd (k / 512 % 8) (k / 64 % 8) (k / 8 % 8) (k % 8) := by
  unfold cd
  omega
section COD
variable {μ : qMu} {a b x y : Int}
theorem x_of (ha : 0 ≤ a ∧ a < 8) (hb : 0 ≤ b ∧ b < 8) (hx : 0 ≤ x ∧ x < 8) (hy : 0 ≤ y ∧ y < 8) : fX0_of a b x y μ = some (cd a b x y) := by
  show some _ = _
  rw [of_cd ha hb hx hy]
theorem x_vertexOf (ha : 0 ≤ a ∧ a < 8) (hb : 0 ≤ b ∧ b < 8) (hx : 0 ≤ x ∧ x < 8) (hy : 0 ≤ y ∧ y < 8) : fX0_vertexOf (cd a b x y) 0 μ = some a ∧ fX0_vertexOf (cd a b x y) 1 μ = some b ∧ fX0_vertexOf (cd a b x y) 2 μ = some x ∧ fX0_vertexOf (cd a b x y) 3 μ = some y := by
  obtain ⟨h1, h2, h3, h4⟩ := part_cd ha hb hx hy
  refine ⟨?_, ?_, ?_, ?_⟩
  · show some (ian (ishr _ 9) 7) = _
    rw [h1]
  · show some (ian (ishr _ 6) 7) = _
    rw [h2]
  · show some (ian (ishr _ 3) 7) = _
    rw [h3]
  · show some (ian (ishr _ 0) 7) = _
    rw [h4]
theorem m_partOf (ha : 0 ≤ a ∧ a < 8) (hb : 0 ≤ b ∧ b < 8) (hx : 0 ≤ x ∧ x < 8) (hy : 0 ≤ y ∧ y < 8) : fX10_partOf (cd a b x y) 0 μ = some a ∧ fX10_partOf (cd a b x y) 1 μ = some b ∧ fX10_partOf (cd a b x y) 2 μ = some x ∧ fX10_partOf (cd a b x y) 3 μ = some y := by
  obtain ⟨h1, h2, h3, h4⟩ := part_cd ha hb hx hy
  refine ⟨?_, ?_, ?_, ?_⟩
  · show some (ian (ishr _ 9) 7) = _
    rw [h1]
  · show some (ian (ishr _ 6) 7) = _
    rw [h2]
  · show some (ian (ishr _ 3) 7) = _
    rw [h3]
  · show some (ian (ishr _ 0) 7) = _
    rw [h4]
theorem m_codeOf : fX10_codeOf a b x y μ = some (cd a b x y) := rfl
theorem cd_w (ha : 0 ≤ a ∧ a < 8) (hb : 0 ≤ b ∧ b < 8) (hx : 0 ≤ x ∧ x < 8) (hy : 0 ≤ y ∧ y < 8) : wr (cd a b x y) = cd a b x y := by
  have := cd_r ha hb hx hy
  exact wr_id (by omega) (by omega)
theorem x_isFirst (ha : 0 ≤ a ∧ a < 8) (hb : 0 ≤ b ∧ b < 8) (hx : 0 ≤ x ∧ x < 8) (hy : 0 ≤ y ∧ y < 8) : ∃ r, fX0_isFirstOfFour a b x y μ = some r ∧ (r = 1 ∧ frs a b x y ∨ r = 0 ∧ ¬ frs a b x y) := by
  simp only [fX0_isFirstOfFour, x_of ha hb hx hy, x_of hb ha hy hx, x_of hx hy ha hb, x_of hy hx hb ha, Option.bind_some, cd_w ha hb hx hy, cd_w hb ha hy hx, cd_w hx hy ha hb, cd_w hy hx hb ha]
  by_cases c1 : cd b a y x < cd a b x y
  · rw [if_pos c1]
    exact ⟨0, rfl, Or.inr ⟨rfl, fun q => by have := q.1; omega⟩⟩
  · rw [if_neg c1]
    by_cases c2 : cd x y a b < cd a b x y
    · rw [if_pos c2]
      exact ⟨0, rfl, Or.inr ⟨rfl, fun q => by have := q.2.1; omega⟩⟩
    · rw [if_neg c2]
      by_cases c3 : cd y x b a < cd a b x y
      · rw [if_pos c3]
        exact ⟨0, rfl, Or.inr ⟨rfl, fun q => by have := q.2.2; omega⟩⟩
      · rw [if_neg c3]
        exact ⟨1, rfl, Or.inl ⟨rfl, by omega, by omega, by omega⟩⟩
theorem m_isFirst (ha : 0 ≤ a ∧ a < 8) (hb : 0 ≤ b ∧ b < 8) (hx : 0 ≤ x ∧ x < 8) (hy : 0 ≤ y ∧ y < 8) : ∃ r, fX10_isFirstOf a b x y μ = some r ∧ (r = 1 ∧ frs a b x y ∨ r = 0 ∧ ¬ frs a b x y) := by
  simp only [fX10_isFirstOf, m_codeOf, Option.bind_some, cd_w ha hb hx hy, cd_w hb ha hy hx, cd_w hx hy ha hb, cd_w hy hx hb ha]
  by_cases c1 : cd b a y x < cd a b x y
  · rw [if_pos c1]
    exact ⟨0, rfl, Or.inr ⟨rfl, fun q => by have := q.1; omega⟩⟩
  · rw [if_neg c1]
    by_cases c2 : cd x y a b < cd a b x y
    · rw [if_pos c2]
      exact ⟨0, rfl, Or.inr ⟨rfl, fun q => by have := q.2.1; omega⟩⟩
    · rw [if_neg c2]
      by_cases c3 : cd y x b a < cd a b x y
      · rw [if_pos c3]
        exact ⟨0, rfl, Or.inr ⟨rfl, fun q => by have := q.2.2; omega⟩⟩
      · rw [if_neg c3]
        exact ⟨1, rfl, Or.inl ⟨rfl, by omega, by omega, by omega⟩⟩
end COD
