/-! SWITCHES: reasons, codes -/
def rsn (m : Int) (c : Int → Int → Int) (a b x y : Int) : Int := if c a b = 0 then 1 else if c x y - (if (a = x ∧ b = y) ∨ (a = y ∧ b = x) then 1 else 0) < 1 then 2 else if a = y ∨ b = x then 3 else if m ≠ 0 ∧ (a = x ∨ b = y) then 4 else if m = 2 ∧ (0 < c a x ∨ 0 < c b y ∨ (a = b ∧ x = y)) then 5 else 0
def cd (a b x y : Int) : Int := ((a * 8 + b) * 8 + x) * 8 + y
def frs (a b x y : Int) : Prop := cd a b x y ≤ cd b a y x ∧ cd a b x y ≤ cd x y a b ∧ cd a b x y ≤ cd y x b a
theorem wr_ite {p : Prop} {i : Decidable p} {x y : Int} : wr (@ite _ p i x y) = @ite _ p i (wr x) (wr y) := by split <;> rfl
theorem wr_0 : wr 0 = 0 := rfl
theorem wr_1 : wr 1 = 1 := rfl
theorem wr_2 : wr 2 = 2 := rfl
section RSN
variable {μ : qMu} {g n : Nat} {N m : Int} {c t : Int → Int → Int} {a b x y : Int}
theorem rsn_r (m : Int) (c : Int → Int → Int) (a b x y : Int) : 0 ≤ rsn m c a b x y ∧ rsn m c a b x y ≤ 5 := by
  unfold rsn
  split
  · omega
  · split
    · omega
    · split
      · omega
      · split
        · omega
        · split <;> omega
theorem x_reason (h : GX μ g N c) (hV : Vd N c) (hm : 0 ≤ m ∧ m ≤ 2) (ha : 0 ≤ a ∧ a < 8) (hb : 0 ≤ b ∧ b < 8) (hx : 0 ≤ x ∧ x < 8) (hy : 0 ≤ y ∧ y < 8) : fX1_reasonAgainst g m a b x y μ = some (rsn m c a b x y) := by
  have r1 := hV.r a b
  have r2 := hV.r x y
  have r3 := hV.r a x
  have r4 := hV.r b y
  have es : (if a = x then if b = y then (1 : Int) else if a = y then if b = x then 1 else 0 else 0 else if a = y then if b = x then 1 else 0 else 0) = if (a = x ∧ b = y) ∨ (a = y ∧ b = x) then 1 else 0 := by
    by_cases q1 : a = x <;> by_cases q2 : b = y <;> by_cases q3 : a = y <;> by_cases q4 : b = x <;> simp [q1, q2, q3, q4]
  have ed : (if a = b then if x = y then (1 : Int) else 0 else 0) = if a = b ∧ x = y then 1 else 0 := by
    by_cases q1 : a = b <;> by_cases q2 : x = y <;> simp [q1, q2]
  have wa : wr a = a := wr_id (by omega) (by omega)
  have wb : wr b = b := wr_id (by omega) (by omega)
  have wx : wr x = x := wr_id (by omega) (by omega)
  have wy : wr y = y := wr_id (by omega) (by omega)
  have wm : wr m = m := wr_id (by omega) (by omega)
  simp only [fX1_reasonAgainst, x_between h ha hb, x_between h hx hy, x_between h ha hx, x_between h hb hy, Option.bind_some, hV.w, wa, wb, wx, wy, wm, wr_ite, wr_0, wr_1, wr_2]
  unfold rsn
  by_cases c1 : c a b = 0
  · rw [if_pos c1, if_pos c1]
  · rw [if_neg c1, if_neg c1, es]
    by_cases c2 : c x y - (if (a = x ∧ b = y) ∨ (a = y ∧ b = x) then 1 else 0) < 1
    · rw [if_pos c2, if_pos (by split at c2 <;> rename_i q <;> simp [q] <;> omega)]
    · rw [if_neg c2, if_neg (by split at c2 <;> rename_i q <;> simp [q] <;> omega)]
      by_cases c3 : a = y
      · rw [if_pos c3, if_pos (Or.inl c3)]
      · rw [if_neg c3]
        by_cases c4 : b = x
        · rw [if_pos c4, if_pos (Or.inr c4)]
        · rw [if_neg c4, if_neg (show ¬ (a = y ∨ b = x) from fun q => q.elim c3 c4)]
          by_cases c5 : m = 0
          · rw [if_pos c5, if_neg (show ¬ (m ≠ 0 ∧ (a = x ∨ b = y)) from fun q => q.1 c5), if_neg (show ¬ (m = 2 ∧ (0 < c a x ∨ 0 < c b y ∨ (a = b ∧ x = y))) from fun q => by omega)]
            by_cases c6 : 0 < c a x
            · rw [if_pos c6]
              simp only [Option.bind_some]
              rw [if_neg (show ¬ m = 2 by omega)]
            · rw [if_neg c6]
              by_cases c7 : 0 < c b y
              · rw [if_pos c7]
                simp only [Option.bind_some]
                rw [if_neg (show ¬ m = 2 by omega)]
              · rw [if_neg c7]
                simp only [Option.bind_some]
                rw [if_neg (show ¬ m = 2 by omega)]
          · rw [if_neg c5]
            by_cases c6 : a = x
            · rw [if_pos c6, if_pos (show m ≠ 0 ∧ (a = x ∨ b = y) from ⟨c5, Or.inl c6⟩)]
            · rw [if_neg c6]
              by_cases c7 : b = y
              · rw [if_pos c7, if_pos (show m ≠ 0 ∧ (a = x ∨ b = y) from ⟨c5, Or.inr c7⟩)]
              · rw [if_neg c7, if_neg (show ¬ (m ≠ 0 ∧ (a = x ∨ b = y)) from fun q => q.2.elim c6 c7), ed]
                by_cases c8 : m = 2
                · by_cases d1 : 0 < c a x
                  · rw [if_pos d1, if_pos (show m = 2 ∧ (0 < c a x ∨ 0 < c b y ∨ (a = b ∧ x = y)) from ⟨c8, Or.inl d1⟩)]
                    simp [c8, wr_id]
                  · rw [if_neg d1]
                    by_cases d2 : 0 < c b y
                    · rw [if_pos d2, if_pos (show m = 2 ∧ (0 < c a x ∨ 0 < c b y ∨ (a = b ∧ x = y)) from ⟨c8, Or.inr (Or.inl d2)⟩)]
                      simp [c8, wr_id]
                    · rw [if_neg d2]
                      by_cases d3 : a = b ∧ x = y
                      · rw [if_pos d3, if_pos (show m = 2 ∧ (0 < c a x ∨ 0 < c b y ∨ (a = b ∧ x = y)) from ⟨c8, Or.inr (Or.inr d3)⟩)]
                        simp [c8, wr_id]
                      · rw [if_neg d3, if_neg (show ¬ (m = 2 ∧ (0 < c a x ∨ 0 < c b y ∨ (a = b ∧ x = y))) from fun q => q.2.elim d1 (fun q => q.elim d2 d3))]
                        simp [c8, wr_id]
                · rw [if_neg (show ¬ (m = 2 ∧ (0 < c a x ∨ 0 < c b y ∨ (a = b ∧ x = y))) from fun q => c8 q.1)]
                  by_cases d1 : 0 < c a x
                  · rw [if_pos d1]
                    simp only [Option.bind_some]
                    rw [if_neg c8]
                  · rw [if_neg d1]
                    by_cases d2 : 0 < c b y
                    · rw [if_pos d2]
                      simp only [Option.bind_some]
                      rw [if_neg c8]
                    · rw [if_neg d2]
                      simp only [Option.bind_some]
                      rw [if_neg c8]
theorem addc_4 {c : Int → Int → Int} {a b x y : Int} : addc (addc (addc (addc c a b (-1)) x y (-1)) a b 1) x y 1 = c := by
  funext u v
  rw [addc_pl, addc_pl, addc_pl, addc_pl]
  split <;> split <;> omega
theorem Bd.ad {c : Int → Int → Int} {B : Int} (h : ∀ u v, -B ≤ c u v ∧ c u v ≤ B) (u v k : Int) (hk : -1 ≤ k ∧ k ≤ 1) (hB : 0 ≤ B) : ∀ i j, -(B + 1) ≤ addc c u v k i j ∧ addc c u v k i j ≤ B + 1 := by
  intro i j
  rw [addc_pl]
  have := h i j
  split <;> omega
end RSN
/-! codes -/
theorem part_all0 : ∀ p : Nat, p < 64 → ∀ q : Nat, q < 64 → ian (ishr ((64 * p + q : Nat) : Int) 9) 7 = (((64 * p + q) / 512 % 8 : Nat) : Int) ∧ ian (ishr ((64 * p + q : Nat) : Int) 6) 7 = (((64 * p + q) / 64 % 8 : Nat) : Int) ∧ ian (ishr ((64 * p + q : Nat) : Int) 3) 7 = (((64 * p + q) / 8 % 8 : Nat) : Int) ∧ ian (ishr ((64 * p + q : Nat) : Int) 0) 7 = (((64 * p + q) % 8 : Nat) : Int) := by decide +kernel
theorem of_all0 : ∀ p : Nat, p < 64 → ∀ q : Nat, q < 64 → io (ishl (io (ishl (io (ishl (((64 * p + q) / 512 % 8 : Nat) : Int) 3) (((64 * p + q) / 64 % 8 : Nat) : Int)) 3) (((64 * p + q) / 8 % 8 : Nat) : Int)) 3) (((64 * p + q) % 8 : Nat) : Int) = ((64 * p + q : Nat) : Int) := by decide +kernel
theorem part_all (k : Nat) (hk : k < 4096) : ian (ishr (k : Int) 9) 7 = ((k / 512 % 8 : Nat) : Int) ∧ ian (ishr (k : Int) 6) 7 = ((k / 64 % 8 : Nat) : Int) ∧ ian (ishr (k : Int) 3) 7 = ((k / 8 % 8 : Nat) : Int) ∧ ian (ishr (k : Int) 0) 7 = ((k % 8 : Nat) : Int) := by
  have h := part_all0 (k / 64) (by omega) (k % 64) (by omega)
  rw [show 64 * (k / 64) + k % 64 = k by omega] at h
  exact h
theorem of_all (k : Nat) (hk : k < 4096) : io (ishl (io (ishl (io (ishl ((k / 512 % 8 : Nat) : Int) 3) ((k / 64 % 8 : Nat) : Int)) 3) ((k / 8 % 8 : Nat) : Int)) 3) ((k % 8 : Nat) : Int) = (k : Int) := by
  have h := of_all0 (k / 64) (by omega) (k % 64) (by omega)
  rw [show 64 * (k / 64) + k % 64 = k by omega] at h
  exact h
theorem cd_r {a b x y : Int} (ha : 0 ≤ a ∧ a < 8) (hb : 0 ≤ b ∧ b < 8) (hx : 0 ≤ x ∧ x < 8) (hy : 0 ≤ y ∧ y < 8) : 0 ≤ cd a b x y ∧ cd a b x y < 4096 := by
  unfold cd
  omega
theorem of_cd {a b x y : Int} (ha : 0 ≤ a ∧ a < 8) (hb : 0 ≤ b ∧ b < 8) (hx : 0 ≤ x ∧ x < 8) (hy : 0 ≤ y ∧ y < 8) : io (ishl (io (ishl (io (ishl a 3) b) 3) x) 3) y = cd a b x y := by
  have h := of_all (cd a b x y).toNat (by have := cd_r ha hb hx hy; omega)
  have e : (((cd a b x y).toNat : Nat) : Int) = cd a b x y := by have := cd_r ha hb hx hy; omega
  rw [e] at h
  have e0 : cd a b x y = ((a * 8 + b) * 8 + x) * 8 + y := rfl
  rw [show (((cd a b x y).toNat / 512 % 8 : Nat) : Int) = a by omega, show (((cd a b x y).toNat / 64 % 8 : Nat) : Int) = b by omega, show (((cd a b x y).toNat / 8 % 8 : Nat) : Int) = x by omega, show (((cd a b x y).toNat % 8 : Nat) : Int) = y by omega] at h
  exact h
theorem part_cd {a b x y : Int} (ha : 0 ≤ a ∧ a < 8) (hb : 0 ≤ b ∧ b < 8) (hx : 0 ≤ x ∧ x < 8) (hy : 0 ≤ y ∧ y < 8) : ian (ishr (cd a b x y) 9) 7 = a ∧ ian (ishr (cd a b x y) 6) 7 = b ∧ ian (ishr (cd a b x y) 3) 7 = x ∧ ian (ishr (cd a b x y) 0) 7 = y := by
  have h := part_all (cd a b x y).toNat (by have := cd_r ha hb hx hy; omega)
  have e : (((cd a b x y).toNat : Nat) : Int) = cd a b x y := by have := cd_r ha hb hx hy; omega
  rw [e] at h
  have e0 : cd a b x y = ((a * 8 + b) * 8 + x) * 8 + y := rfl
  rw [show (((cd a b x y).toNat / 512 % 8 : Nat) : Int) = a by omega, show (((cd a b x y).toNat / 64 % 8 : Nat) : Int) = b by omega, show (((cd a b x y).toNat / 8 % 8 : Nat) : Int) = x by omega, show (((cd a b x y).toNat % 8 : Nat) : Int) = y by omega] at h
  exact h
theorem cd_of {k : Int} (hk : 0 ≤ k ∧ k < 4096) : k = cd (k / 512 % 8) (k / 64 % 8) (k / 8 % 8) (k % 8) := by
  unfold cd
  omega
section COD
variable {μ : qMu} {a b x y : Int}
theorem cd_w (ha : 0 ≤ a ∧ a < 8) (hb : 0 ≤ b ∧ b < 8) (hx : 0 ≤ x ∧ x < 8) (hy : 0 ≤ y ∧ y < 8) : wr (cd a b x y) = cd a b x y := by
  have := cd_r ha hb hx hy
  exact wr_id (by omega) (by omega)
end COD
