/-! WRITING: edges put and taken, graphs copied -/
def Fr (l : List Nat) (μ μ' : qMu) : Prop := ∀ a, a ∉ l → μ' a = μ a
theorem Fr.rf (l : List Nat) (μ : qMu) : Fr l μ μ := fun _ _ => rfl
theorem Fr.tr {l : List Nat} {μ1 μ2 μ3 : qMu} (h1 : Fr l μ1 μ2) (h2 : Fr l μ2 μ3) : Fr l μ1 μ3 := fun a ha => (h2 a ha).trans (h1 a ha)
theorem Fr.wk {l l' : List Nat} {μ1 μ2 : qMu} (h : Fr l μ1 μ2) (hl : ∀ a ∈ l, a ∈ l') : Fr l' μ1 μ2 := fun a ha => h a (fun q => ha (hl a q))
theorem Fr.up {l : List Nat} {μ : qMu} {a : Nat} {i v : Int} (h : a ∈ l) : Fr l μ (up μ a i v) := fun b hb => up_ne (fun q => hb (q ▸ h))
theorem rd_cg {μ μ' : qMu} {a : Nat} (h : μ' a = μ a) (i : Int) : rd μ' a i = rd μ a i := by
  unfold rd
  rw [h]
theorem GX.kp {μ μ' : qMu} {g : Nat} {N : Int} {c : Int → Int → Int} (h : GX μ g N c) (h1 : μ' g = μ g) (h2 : μ' (g + 1) = μ (g + 1)) : GX μ' g N c :=
  ⟨by rw [rd_cg h1]; exact h.1, fun u v hu hv => by rw [rd_cg h2]; exact h.2 u v hu hv⟩
/-- a graph of the class, with its number of edges -/
def GY (μ : qMu) (g : Nat) (N : Int) (c : Int → Int → Int) : Prop := GX μ g N c ∧ rd μ g 2 = Ed c
theorem GY.kp {μ μ' : qMu} {g : Nat} {N : Int} {c : Int → Int → Int} (h : GY μ g N c) (h1 : μ' g = μ g) (h2 : μ' (g + 1) = μ (g + 1)) : GY μ' g N c :=
  ⟨h.1.kp h1 h2, by rw [rd_cg h1]; exact h.2⟩
/-- the reference's state -/
def SM (μ : qMu) (N m : Int) (c t : Int → Int → Int) : Prop := rd μ 79 0 = N ∧ rd μ 79 1 = m ∧ GM μ 2 c ∧ GM μ 66 t
theorem GM.kp {μ μ' : qMu} {T : Int} {c : Int → Int → Int} (h : GM μ T c) (h1 : μ' 79 = μ 79) : GM μ' T c := fun u v hu hv => by rw [rd_cg h1]; exact h u v hu hv
theorem SM.kp {μ μ' : qMu} {N m : Int} {c t : Int → Int → Int} (h : SM μ N m c t) (h1 : μ' 79 = μ 79) : SM μ' N m c t :=
  ⟨by rw [rd_cg h1]; exact h.1, by rw [rd_cg h1]; exact h.2.1, h.2.2.1.kp h1, h.2.2.2.kp h1⟩
def addc (c : Int → Int → Int) (u v k : Int) : Int → Int → Int := fun a b => if (a = u ∧ b = v) ∨ (a = v ∧ b = u) then c a b + k else c a b
theorem addc_sw (c : Int → Int → Int) (u v k : Int) : addc c u v k = addc c v u k := by
  funext a b
  unfold addc
  by_cases h1 : a = u ∧ b = v <;> by_cases h2 : a = v ∧ b = u <;> simp [h1, h2]
theorem addc_pl (c : Int → Int → Int) (u v k a b : Int) : addc c u v k a b = c a b + (if (a = u ∧ b = v) ∨ (a = v ∧ b = u) then k else 0) := by
  unfold addc
  split <;> omega
theorem addc_sy {c : Int → Int → Int} (h : ∀ a b, c a b = c b a) (u v k a b : Int) : addc c u v k a b = addc c u v k b a := by
  rw [addc_pl, addc_pl, h a b]
  congr 1
  by_cases h1 : a = u ∧ b = v <;> by_cases h2 : a = v ∧ b = u <;> simp [h1, h2, and_comm]
theorem Ed_addc {c : Int → Int → Int} {u v k : Int} (hu : 0 ≤ u ∧ u < 8) (hv : 0 ≤ v ∧ v < 8) : Ed (addc c u v k) = Ed c + k := by
  have key : ∀ u v : Int, (0 ≤ u ∧ u < 8) → (u ≤ v ∧ v < 8) → Ed (addc c u v k) = Ed c + k := by
    intro u v hu hv
    have e1 : Ed (addc c u v k) = rs (fun a => rs (fun b => c a b) a 8 + rs (fun b => if a = u ∧ b = v then k else 0) a 8) 0 8 := by
      unfold Ed
      refine rs_congr (fun a h1 h2 => ?_)
      show rs (fun b => addc c u v k a b) a 8 = rs (fun b => c a b) a 8 + rs (fun b => if a = u ∧ b = v then k else 0) a 8
      rw [← rs_add]
      refine rs_congr (fun b h3 h4 => ?_)
      show addc c u v k a b = c a b + (if a = u ∧ b = v then k else 0)
      rw [addc_pl]
      congr 1
      by_cases q1 : a = u ∧ b = v
      · rw [if_pos (Or.inl q1), if_pos q1]
      · by_cases q2 : a = v ∧ b = u
        · exact absurd ⟨by omega, by omega⟩ q1
        · rw [if_neg (fun q => q.elim q1 q2), if_neg q1]
    rw [e1, rs_add]
    congr 1
    rw [rs_one hu.1 hu.2 (fun a h1 h2 h3 => rs_zero (fun b _ _ => by rw [if_neg (fun q => h3 q.1)]))]
    show rs (fun b => if u = u ∧ b = v then k else 0) u 8 = k
    rw [rs_one hv.1 hv.2 (fun b h1 h2 h3 => by rw [if_neg (fun q => h3 q.2)]), if_pos ⟨rfl, rfl⟩]
  by_cases h : u ≤ v
  · exact key u v hu ⟨h, hv.2⟩
  · rw [addc_sw]
    exact key v u hv ⟨by omega, hu.2⟩
theorem dgs_addc {c : Int → Int → Int} {u v k : Int} (hu : 0 ≤ u ∧ u < 8) (hv : 0 ≤ v ∧ v < 8) (w : Int) : dgs (addc c u v k) w = dgs c w + (if w = u then k else 0) + (if w = v then k else 0) := by
  unfold dgs
  rw [rs_congr (f := fun b => addc c u v k w b) (g := fun b => c w b + (if (w = u ∧ b = v) ∨ (w = v ∧ b = u) then k else 0)) (fun b _ _ => addc_pl c u v k w b), rs_add, addc_pl]
  generalize rs (fun b => c w b) 0 8 = S
  by_cases h1 : w = u
  · subst h1
    by_cases h2 : w = v
    · subst h2
      rw [rs_one (f := fun b => if (w = w ∧ b = w) ∨ (w = w ∧ b = w) then k else 0) hu.1 hu.2 (fun b _ _ h3 => by rw [if_neg (fun q => q.elim (fun q => h3 q.2) (fun q => h3 q.2))])]
      simp
      omega
    · rw [rs_one (f := fun b => if (w = w ∧ b = v) ∨ (w = v ∧ b = w) then k else 0) hv.1 hv.2 (fun b _ _ h3 => by rw [if_neg (fun q => q.elim (fun q => h3 q.2) (fun q => h2 q.1))])]
      simp [h2]
      omega
  · by_cases h2 : w = v
    · subst h2
      rw [rs_one (f := fun b => if (w = u ∧ b = w) ∨ (w = w ∧ b = u) then k else 0) hu.1 hu.2 (fun b _ _ h3 => by rw [if_neg (fun q => q.elim (fun q => h1 q.1) (fun q => h3 q.2))])]
      simp [h1]
      omega
    · rw [rs_zero (f := fun b => if (w = u ∧ b = v) ∨ (w = v ∧ b = u) then k else 0) (fun b _ _ => by rw [if_neg (fun q => q.elim (fun q => h1 q.1) (fun q => h2 q.1))])]
      simp [h1, h2]
def Bd (c : Int → Int → Int) : Prop := ∀ u v, -1000 ≤ c u v ∧ c u v ≤ 1000
theorem Vd.bd {N : Int} {c : Int → Int → Int} (h : Vd N c) : Bd c := fun u v => by have := h.r u v; omega
theorem x_put {μ : qMu} {g : Nat} {N : Int} {c : Int → Int → Int} (h : GY μ g N c) (hB : Bd c) (hE : -100000 ≤ Ed c ∧ Ed c ≤ 100000) {u v k : Int} (hu : 0 ≤ u ∧ u < 8) (hv : 0 ≤ v ∧ v < 8) (hk : -1000 ≤ k ∧ k ≤ 1000) : ∃ μ', fX1_put g u v k μ = some μ' ∧ GY μ' g N (addc c u v k) ∧ Fr [g, g + 1] μ μ' := by
  obtain ⟨⟨h1, h2⟩, h3⟩ := h
  have e1 := h2 u v hu hv
  have e2 := h2 v u hv hu
  have b1 := hB u v
  have b2 := hB v u
  have ew1 : wr (c u v + k) = c u v + k := wr_id (by omega) (by omega)
  have ew2 : wr (c v u + k) = c v u + k := wr_id (by omega) (by omega)
  by_cases huv : u = v
  · subst huv
    refine ⟨up (up μ (g + 1) (u * 8 + u) (c u u + k)) g 2 (Ed c + k), ?_, ⟨⟨?_, fun a b ha hb => ?_⟩, ?_⟩, ?_⟩
    · simp (disch := omega) only [fX1_put, qLd_in, qSa_in, qPf_eq, Option.bind_some, wr_id, if_pos, ite_true, e1, rd_na, h3]
    · simp (disch := omega) only [rd_ni, rd_na, h1]
    · rw [rd_na (by omega), rd_up]
      unfold addc
      by_cases hab : a = u ∧ b = u
      · obtain ⟨rfl, rfl⟩ := hab
        rw [if_pos ⟨rfl, rfl⟩, if_pos (Or.inl ⟨rfl, rfl⟩), ew1]
      · rw [if_neg (by omega), if_neg (by omega)]
        exact h2 a b ha hb
    · rw [rd_at, Ed_addc hu hu]
      exact wr_id (by omega) (by omega)
    · exact (Fr.up (by simp)).tr (Fr.up (by simp))
  · refine ⟨up (up (up μ (g + 1) (u * 8 + v) (c u v + k)) (g + 1) (v * 8 + u) (c v u + k)) g 2 (Ed c + k), ?_, ⟨⟨?_, fun a b ha hb => ?_⟩, ?_⟩, ?_⟩
    · simp (disch := omega) only [fX1_put, qLd_in, qSa_in, qPf_eq, Option.bind_some, wr_id, if_neg, e1, e2, rd_na, rd_ni, h3]
    · simp (disch := omega) only [rd_ni, rd_na, h1]
    · rw [rd_na (by omega), rd_up, rd_up]
      unfold addc
      by_cases hab : a = v ∧ b = u
      · obtain ⟨rfl, rfl⟩ := hab
        rw [if_pos ⟨rfl, rfl⟩, if_pos (Or.inr ⟨rfl, rfl⟩), ew2]
      · by_cases hab2 : a = u ∧ b = v
        · obtain ⟨rfl, rfl⟩ := hab2
          rw [if_neg (by omega), if_pos ⟨rfl, rfl⟩, if_pos (Or.inl ⟨rfl, rfl⟩), ew1]
        · rw [if_neg (by omega), if_neg (by omega), if_neg (by omega)]
          exact h2 a b ha hb
    · rw [rd_at, Ed_addc hu hv]
      exact wr_id (by omega) (by omega)
    · exact ((Fr.up (by simp)).tr (Fr.up (by simp))).tr (Fr.up (by simp))
theorem x_become {μ : qMu} {g o n : Nat} {N : Int} {c : Int → Int → Int} (hn : 5000 ≤ n) (h : GY μ o N c) (hB : Bd c) (h1 : o ≠ g) (h2 : o ≠ g + 1) (h3 : o + 1 ≠ g) (hE : -100000 ≤ Ed c ∧ Ed c ≤ 100000) (hN : 0 ≤ N ∧ N ≤ 8) : ∃ μ', fX1_become n g o μ = some μ' ∧ GY μ' g N c ∧ Fr [g, g + 1] μ μ' := by
  obtain ⟨⟨e1, e2⟩, e3⟩ := h
  obtain ⟨b, q1, q2⟩ := lp_inv (f := fun x : Int × qMu => bX1_become_2 n g o x.1 x.2) (fun k x => (x.1 = 64 - (k : Int) ∧ 0 ≤ x.1) ∧ Fr [g + 1] μ x.2 ∧ ∀ i, 0 ≤ i → i < x.1 → rd x.2 (g + 1) i = rd μ (o + 1) i) (fun y => Fr [g + 1] μ y ∧ ∀ i, 0 ≤ i → i < 64 → rd y (g + 1) i = rd μ (o + 1) i) (by
    rintro k ⟨i, ν⟩ ⟨⟨h4, h5⟩, h6, h7⟩
    dsimp only at h4 h5 h6 h7
    by_cases hi : i < 64
    · right
      have e4 : rd ν (o + 1) i = rd μ (o + 1) i := rd_cg (h6 (o + 1) (by simp; omega)) i
      refine ⟨k - 1, (i + 1, up ν (g + 1) i (rd ν (o + 1) i)), ?_, by omega, ⟨by dsimp only; omega, by dsimp only; omega⟩, h6.tr (Fr.up (by simp)), fun j q1 q2 => ?_⟩
      · simp (disch := omega) only [bX1_become_2, wr_id, if_pos, qLd_in, qSa_in, Option.bind_some]
      · dsimp only at q2
        by_cases hj : j = i
        · subst hj
          rw [rd_at, wr_rd, e4]
        · rw [rd_ni hj]
          exact h7 j q1 (by omega)
    · left
      refine ⟨ν, ?_, h6, fun j q1 q2 => h7 j q1 (by omega)⟩
      simp (disch := omega) only [bX1_become_2, wr_id, if_neg]) n 64 (0, μ) ⟨⟨rfl, Int.le_refl _⟩, Fr.rf _ _, fun i q1 q2 => by dsimp only at q2; omega⟩ (by omega)
  have e5 : ∀ i, rd b o i = rd μ o i := fun i => rd_cg (q2.1 o (by simp; omega)) i
  refine ⟨up (up b g 1 N) g 2 (Ed c), ?_, ⟨⟨?_, fun u v hu hv => ?_⟩, ?_⟩, ?_⟩
  · simp (disch := omega) only [fX1_become, q1, qPf_eq, Option.bind_some, e5, e1, rd_na, e3]
  · rw [rd_ni (by omega), rd_at]
    exact wr_id (by omega) (by omega)
  · rw [rd_na (by omega), rd_na (by omega), q2.2 _ (by omega) (by omega)]
    exact e2 u v hu hv
  · rw [rd_at]
    exact wr_id (by omega) (by omega)
  · exact ((q2.1.wk (by simp)).tr (Fr.up (by simp))).tr (Fr.up (by simp))
theorem x_clear {μ : qMu} {g n : Nat} {N : Int} (hn : 5000 ≤ n) (hN : 0 ≤ N ∧ N ≤ 8) : ∃ μ', fX1_clear n g N μ = some μ' ∧ GY μ' g N (fun _ _ => 0) ∧ Fr [g, g + 1] μ μ' := by
  obtain ⟨b, q1, q2⟩ := lp_inv (f := fun x : Int × qMu => bX1_clear_2 n g N x.1 x.2) (fun k x => (x.1 = 64 - (k : Int) ∧ 0 ≤ x.1) ∧ Fr [g + 1] μ x.2 ∧ ∀ i, 0 ≤ i → i < x.1 → rd x.2 (g + 1) i = 0) (fun y => Fr [g + 1] μ y ∧ ∀ i, 0 ≤ i → i < 64 → rd y (g + 1) i = 0) (by
    rintro k ⟨i, ν⟩ ⟨⟨h4, h5⟩, h6, h7⟩
    dsimp only at h4 h5 h6 h7
    by_cases hi : i < 64
    · right
      refine ⟨k - 1, (i + 1, up ν (g + 1) i 0), ?_, by omega, ⟨by dsimp only; omega, by dsimp only; omega⟩, h6.tr (Fr.up (by simp)), fun j q1 q2 => ?_⟩
      · simp (disch := omega) only [bX1_clear_2, wr_id, if_pos, qSa_in, Option.bind_some]
      · dsimp only at q2
        by_cases hj : j = i
        · subst hj
          rw [rd_at]
          exact wr_id (by omega) (by omega)
        · rw [rd_ni hj]
          exact h7 j q1 (by omega)
    · left
      refine ⟨ν, ?_, h6, fun j q1 q2 => h7 j q1 (by omega)⟩
      simp (disch := omega) only [bX1_clear_2, wr_id, if_neg]) n 64 (0, μ) ⟨⟨rfl, Int.le_refl _⟩, Fr.rf _ _, fun i q1 q2 => by dsimp only at q2; omega⟩ (by omega)
  refine ⟨up (up b g 1 N) g 2 0, ?_, ⟨⟨?_, fun u v hu hv => ?_⟩, ?_⟩, ?_⟩
  · simp (disch := omega) only [fX1_clear, q1, qPf_eq, Option.bind_some]
  · rw [rd_ni (by omega), rd_at]
    exact wr_id (by omega) (by omega)
  · rw [rd_na (by omega), rd_na (by omega)]
    exact q2.2 _ (by omega) (by omega)
  · rw [rd_at]
    rfl
  · exact ((q2.1.wk (by simp)).tr (Fr.up (by simp))).tr (Fr.up (by simp))
