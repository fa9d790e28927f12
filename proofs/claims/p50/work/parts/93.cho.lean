/-! THE LAW'S NUMBERS, its table, its pieces of text -/
theorem irm_t {x y : Int} (hy : 1 ≤ y ∧ y ≤ 100) : -y < irm x y ∧ irm x y < y := by
  have hx := rd_r (fun _ _ => Int32.ofInt x) 0 0
  have hx : -2147483648 ≤ wr x ∧ wr x ≤ 2147483647 := hx
  have ex : Int32.ofInt x = Int32.ofInt (wr x) := (Int32.ofInt_toInt _).symm
  have hq1 : (wr x).tdiv y * y = wr x - (wr x).tmod y := by
    have := Int.tmod_def (wr x) y
    rw [Int.mul_comm]
    omega
  have h1 : (wr x).tmod y < y := Int.tmod_lt_of_pos _ (by omega)
  have h2 : -y < (wr x).tmod y := Int.lt_tmod_of_pos _ (by omega)
  have e1 : Int32.ofInt (wr x) / Int32.ofInt y = Int32.ofInt ((wr x).tdiv y) := by
    rw [Int32.ofInt_tdiv (by exact hx.1) (by exact hx.2) (by show -2147483648 ≤ y; omega) (by show y ≤ 2147483647; omega)]
  have e2 : irm x y = wr ((wr x).tmod y) := by
    unfold irm
    rw [ex, e1, ← Int32.ofInt_mul, ← Int32.ofInt_sub, hq1, show wr x - (wr x - (wr x).tmod y) = (wr x).tmod y by omega]
    rfl
  rw [e2, wr_id (by omega) (by omega)]
  omega
section CHO
variable {μ : qMu} {n Ls : Nat} {m p k : Int}
theorem x_among (hm : 1 ≤ m ∧ m ≤ 100) : ∃ v, fL_among p m μ = some v ∧ 0 ≤ v ∧ v < m := by
  have h := irm_t (x := p) hm
  have hz : qnz m = some () := by
    unfold qnz
    rw [wr_id (by omega) (by omega), if_neg (by omega)]
  unfold fL_among
  rw [hz, obs, wr_id (by omega) (by omega)]
  by_cases c : irm p m < 0
  · rw [if_pos c]
    exact ⟨_, rfl, by omega, by omega⟩
  · rw [if_neg c]
    exact ⟨_, rfl, by omega, by omega⟩
theorem x_cell (hL : Ls ≤ 5000) (hp : 0 ≤ p ∧ p ≤ 5000) : ∃ v, fL_cell Ls p μ = some v := by
  unfold fL_cell
  rw [wr_id (by omega) (by omega), wr_id (by omega) (by omega)]
  by_cases c : p < (Ls : Int)
  · rw [if_pos c, qLd_in (by omega), obs]
    exact ⟨_, rfl⟩
  · rw [if_neg c]
    exact ⟨_, rfl⟩
theorem x_chosen (hL : Ls ≤ 5000) (hm : 1 ≤ m ∧ m ≤ 100) (ha : rd μ 78 1 = k) (hk : 0 ≤ k ∧ k ≤ 5000) : ∃ v, fL_chosen Ls m μ = some (v, up μ 78 1 (k + 1)) ∧ 0 ≤ v ∧ v < m := by
  obtain ⟨c, hc⟩ := x_cell (μ := μ) hL hk
  obtain ⟨v, hv, h1⟩ := x_among (μ := μ) (p := c) hm
  refine ⟨v, ?_, h1⟩
  unfold fL_chosen
  rw [ha, hc, obs, hv, obs, qPf_eq, obs]
end CHO
/-- the law's table -/
def Tab (μ : qMu) (c : Int → Int → Int) : Prop := ∀ i j : Nat, i < 6 → j < 6 → rd μ (81 + i) (j : Int) = if i ≤ j then c (i : Int) (j : Int) else 0
theorem Tab.kp {μ μ' : qMu} {c : Int → Int → Int} (h : Tab μ c) (f : ∀ a, 81 ≤ a → a ≤ 86 → μ' a = μ a) : Tab μ' c := fun i j hi hj => (rd_cg (f _ (by omega) (by omega)) _).trans (h i j hi hj)
theorem qLa80 : ∀ p : Nat, p < 6 → qLa qR80 (p : Int) = some (81 + p) := by decide
theorem qLa80i {p : Int} (h : 0 ≤ p ∧ p < 6) : qLa qR80 p = some (81 + p.toNat) := by
  have := qLa80 p.toNat (by omega)
  rw [show ((p.toNat : Nat) : Int) = p by omega] at this
  exact this
theorem Tab.at {μ : qMu} {c : Int → Int → Int} (h : Tab μ c) {i j : Int} (hi : 0 ≤ i ∧ i ≤ j ∧ j < 6) : qLa qR80 i = some (81 + i.toNat) ∧ qLd μ (81 + i.toNat) 6 j = some (c i j) := by
  refine ⟨qLa80i (by omega), ?_⟩
  have := h i.toNat j.toNat (by omega) (by omega)
  rw [if_pos (by omega), show ((j.toNat : Nat) : Int) = j by omega, show ((i.toNat : Nat) : Int) = i by omega] at this
  rw [qLd_in (by omega), this]
theorem Tab.put {μ : qMu} {c : Int → Int → Int} (h : Tab μ c) {i j k v : Int} (hi : 0 ≤ i ∧ i ≤ j ∧ j < 6) (hv : v = c i j + k) (hr : -1000 ≤ v ∧ v ≤ 1000) : qSa μ (81 + i.toNat) 6 j v = some (up μ (81 + i.toNat) j v) ∧ Tab (up μ (81 + i.toNat) j v) (addc c i j k) := by
  refine ⟨qSa_in (by omega), fun a b ha hb => ?_⟩
  rw [rd_up, addc_pl]
  by_cases q : 81 + a = 81 + i.toNat ∧ (b : Int) = j
  · rw [if_pos q, if_pos (by omega), if_pos (Or.inl ⟨by omega, q.2⟩), wr_id (by omega) (by omega), hv, show (a : Int) = i by omega, q.2]
  · rw [if_neg q, h a b ha hb]
    by_cases q2 : a ≤ b
    · rw [if_pos q2, if_pos q2, if_neg (by omega), Int.add_zero]
    · rw [if_neg q2, if_neg q2]
/-- the pieces -/
def tDeg : List Int := [100, 101, 103, 114, 101, 101, 115]
def tD (D : Int → Int) : Nat → List Int
  | 0 => tDeg
  | j + 1 => (tD D j ++ [32]) ++ [48 + D (j : Int)]
def tM (T : List Int) (m : Int) : List Int := ((T ++ [59, 109, 111, 100, 101, 32]) ++ [48 + m]) ++ [59]
def tE (T : List Int) (U V : Nat → Int) : Nat → List Int
  | 0 => T
  | j + 1 => ((((tE T U V j ++ [101, 100, 103, 101, 32]) ++ [48 + U j]) ++ [32]) ++ [48 + V j]) ++ [59]
theorem tD_l (D : Int → Int) : ∀ j, (tD D j).length = 7 + 2 * j
  | 0 => rfl
  | j + 1 => by
    unfold tD
    rw [List.length_append, List.length_append, tD_l D j, List.length_singleton, List.length_singleton]
    omega
theorem tM_l (T : List Int) (m : Int) : (tM T m).length = T.length + 8 := by
  unfold tM
  rw [List.length_append, List.length_append, List.length_append]
  rfl
theorem tE_l (T : List Int) (U V : Nat → Int) : ∀ j, (tE T U V j).length = T.length + 9 * j
  | 0 => rfl
  | j + 1 => by
    unfold tE
    rw [List.length_append, List.length_append, List.length_append, List.length_append, List.length_append, tE_l T U V j]
    show T.length + 9 * j + 5 + 1 + 1 + 1 + 1 = _
    omega
/-- bytes all -/
def Ok (T : List Int) : Prop := ∀ j : Nat, j < T.length → 0 ≤ T.getD j 0 ∧ T.getD j 0 ≤ 127
theorem Ok.app {T S : List Int} (h : Ok T) (h2 : Ok S) : Ok (T ++ S) := fun j hj => by
  rw [List.length_append] at hj
  rw [getD_app]
  by_cases q : j < T.length
  · rw [if_pos q]
    exact h j q
  · rw [if_neg q]
    exact h2 _ (by omega)
theorem Ok.dig {T : List Int} {d : Int} (h : Ok T) (hd : 0 ≤ d ∧ d ≤ 9) : Ok (T ++ [48 + d]) := h.app (fun j hj => by
  have : j = 0 := by
    have : j < 1 := hj
    omega
  subst this
  show 0 ≤ 48 + d ∧ 48 + d ≤ 127
  omega)
theorem ok_d : Ok tDeg := by
  have : ∀ j : Nat, j < 7 → 0 ≤ tDeg.getD j 0 ∧ tDeg.getD j 0 ≤ 127 := by decide
  exact this
theorem ok_b : Ok [32] := by
  have : ∀ j : Nat, j < 1 → 0 ≤ [32].getD j (0 : Int) ∧ [32].getD j (0 : Int) ≤ 127 := by decide
  exact this
theorem ok_m : Ok [59, 109, 111, 100, 101, 32] := by
  have : ∀ j : Nat, j < 6 → 0 ≤ [59, 109, 111, 100, 101, 32].getD j (0 : Int) ∧ [59, 109, 111, 100, 101, 32].getD j (0 : Int) ≤ 127 := by decide
  exact this
theorem ok_s : Ok [59] := by
  have : ∀ j : Nat, j < 1 → 0 ≤ [59].getD j (0 : Int) ∧ [59].getD j (0 : Int) ≤ 127 := by decide
  exact this
theorem ok_e : Ok [101, 100, 103, 101, 32] := by
  have : ∀ j : Nat, j < 5 → 0 ≤ [101, 100, 103, 101, 32].getD j (0 : Int) ∧ [101, 100, 103, 101, 32].getD j (0 : Int) ≤ 127 := by decide
  exact this
theorem St.cn {μ : qMu} {w s : Nat} {T : List Int} (hs : qistr s = true) (h : qStr (s - 1000000) = T) (hl : T.length ≤ 100) (ho : Ok T) : St μ w s T := ⟨⟨hl, ho⟩, Or.inl ⟨hs, h⟩⟩
theorem st_d (μ : qMu) (w : Nat) : St μ w 1000005 tDeg := St.cn (by decide) (by decide +kernel) (by decide) ok_d
theorem st_b (μ : qMu) (w : Nat) : St μ w 1000006 [32] := St.cn (by decide) (by decide +kernel) (by decide) ok_b
theorem st_m (μ : qMu) (w : Nat) : St μ w 1000007 [59, 109, 111, 100, 101, 32] := St.cn (by decide) (by decide +kernel) (by decide) ok_m
theorem st_s (μ : qMu) (w : Nat) : St μ w 1000008 [59] := St.cn (by decide) (by decide +kernel) (by decide) ok_s
theorem st_e (μ : qMu) (w : Nat) : St μ w 1000009 [101, 100, 103, 101, 32] := St.cn (by decide) (by decide +kernel) (by decide) ok_e
/-- a row of numbers that was made on the way -/
def Nu (μ : qMu) (a l : Nat) : Prop := (87 ≤ a ∧ a < 87 + qJn μ ∧ a < 1500) ∧ qJk μ a = 0 ∧ qJl μ a = l ∧ l ≤ 6
theorem Nu.kp {μ μ' : qMu} {a l : Nat} (h : Nu μ a l) (h2 : μ' (2000000 + a) = μ (2000000 + a)) (h3 : qJn μ ≤ qJn μ') : Nu μ' a l := ⟨⟨h.1.1, by have := h.1; omega, h.1.2.2⟩, (qJk_cg h2).trans h.2.1, (qJl_cg h2).trans h.2.2.1, h.2.2.2⟩
theorem Nu.li {μ : qMu} {a l : Nat} (h : Nu μ a l) {i : Int} (hi : 0 ≤ i ∧ i < (l : Int)) : qLi μ a i = some (rd μ a i) := by
  unfold qLi
  rw [if_pos ⟨⟨h.1, h.2.1⟩, by rw [h.2.2.1]; exact hi, by rw [h.2.2.1]; have := h.2.2.2; omega⟩]
theorem Nu.si {μ : qMu} {a l : Nat} (h : Nu μ a l) {i v : Int} (hi : 0 ≤ i ∧ i < (l : Int)) : qSi μ a i v = some (up μ a i v) := by
  unfold qSi
  rw [if_pos ⟨⟨h.1, h.2.1⟩, by rw [h.2.2.1]; exact hi, by rw [h.2.2.1]; have := h.2.2.2; omega⟩]
theorem nw_num {μ : qMu} {l : Nat} (hn : qJn μ < 800) (hs : qJs μ < 80000) (hl : l ≤ 6) : ∃ μ', qNw μ 0 (l : Int) = some (87 + qJn μ, μ') ∧ Nu μ' (87 + qJn μ) l ∧ (∀ j, rd μ' (87 + qJn μ) j = 0) ∧ Gr (87 + qJn μ) 1 6 μ μ' := by
  refine ⟨qNewm μ (fun _ => 0) 0 l l, if_pos ⟨by omega, by omega, by omega⟩, ⟨⟨by omega, by rw [qNewm_n (by omega)]; omega, by omega⟩, qNewm_k (by omega) (by omega), qNewm_l (by omega) (by omega), hl⟩, fun j => ?_, (Gr.new (Nat.le_refl _) (by omega) (by omega) (by omega)).wk (Nat.le_refl _) (Nat.le_refl _) hl⟩
  unfold rd
  rw [qNewm_f]
  rfl
