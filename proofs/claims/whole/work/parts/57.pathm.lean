/-! THE PATH in both programs -/
theorem dv8_all : ∀ k : Nat, k < 64 → idv (k : Int) 8 = ((k / 8 : Nat) : Int) ∧ irm (k : Int) 8 = ((k % 8 : Nat) : Int) := by decide +kernel
theorem dv8 {k : Int} (h : 0 ≤ k ∧ k < 64) : idv k 8 = k / 8 ∧ irm k 8 = k % 8 := by
  have := dv8_all k.toNat (by omega)
  rw [show ((k.toNat : Nat) : Int) = k by omega] at this
  rw [this.1, this.2]
  omega
theorem itG_back {C : (Int → Int → Int) → Int} : ∀ (k : Nat) (c : Int → Int → Int), itG C (k + 1) c = if C (itG C k c) = -1 then itG C k c else swk (itG C k c) (C (itG C k c))
  | 0, c => rfl
  | k + 1, c => by
    by_cases h : C c = -1
    · rw [itG_e h, itG_e h, if_pos h]
    · rw [itG_s h (k + 1), itG_s h k]
      exact itG_back k _
section PTM
variable {μ ν : qMu} {g n : Nat} {N m p : Int} {c t : Int → Int → Int} {u v a b : Int}
theorem rsk_ok {k : Int} (hV : Vd N c) (h : rsk p c k) : Vd N (swk c k) ∧ Ed (swk c k) = Ed c ∧ ∀ w, dgs (swk c k) w = dgs c w := (sw_ok hV h.2).2.2.2.2
theorem x_exr {k : Int} (h : GY μ g N c) (hV : Vd N c) (hr : rsk p c k) : ∃ μ', fX1_exchangeEdges g k μ = some μ' ∧ GY μ' g N (swk c k) ∧ Fr [g, g + 1] μ μ' := by
  obtain ⟨μ', q1, q2, q3⟩ := x_exch h hV hr.2
  rw [← cd_of hr.1] at q1
  exact ⟨μ', q1, q2, q3⟩
theorem m_swr {k : Int} (h : SM μ N m c t) (hV : Vd N c) (hV' : Vd N t) (hr : rsk p c k) : ∃ μ', fX10_switchesBy k μ = some μ' ∧ SM μ' N m (swk c k) t ∧ Fr [79] μ μ' := by
  obtain ⟨μ', q1, q2, q3⟩ := m_switches h hV hV' hr.2
  obtain ⟨p0, p1, p2, p3⟩ := m_part (ν := μ) hr.1
  exact ⟨μ', by simp only [fX10_switchesBy, p0, p1, p2, p3, q1, Option.bind_some], q2, q3⟩
/-- the graph after j steps -/
noncomputable def pth (t c : Int → Int → Int) (j : Nat) : Int → Int → Int := itG (nxT t) j c
theorem pth_s (t c : Int → Int → Int) (j : Nat) (h : nxT t (pth t c j) ≠ -1) : pth t c (j + 1) = swk (pth t c j) (nxT t (pth t c j)) := by
  show itG _ _ _ = _
  rw [itG_back]
  exact if_neg h
theorem pth_f (t c : Int → Int → Int) (j : Nat) (h : nxT t (pth t c j) = -1) : pth t c (j + 1) = pth t c j := by
  show itG _ _ _ = _
  rw [itG_back]
  exact if_pos h
theorem pth_ok (hV : Vd N c) (hV' : Vd N t) (ha : alk c t) : ∀ j, Vd N (pth t c j) ∧ alk (pth t c j) t ∧ Ed (pth t c j) = Ed c ∧ ∀ w, dgs (pth t c j) w = dgs c w
  | 0 => ⟨hV, ha, rfl, fun _ => rfl⟩
  | j + 1 => by
    obtain ⟨h1, h2, h3, h4⟩ := pth_ok hV hV' ha j
    rcases nx_ok h1 hV' h2 with ⟨-, q, -⟩ | ⟨-, -, -, -, -, q, -⟩
    · rw [pth_f t c j q]
      exact ⟨h1, h2, h3, h4⟩
    · obtain ⟨r1, r2, r3⟩ := rsk_ok h1 q
      rw [pth_s t c j (by have := q.1.1; omega)]
      exact ⟨r1, fun w w1 w2 => (r3 w).trans (h2 w w1 w2), r2.trans h3, fun w => (r3 w).trans (h4 w)⟩
def PL (t c : Int → Int → Int) (L : Nat) : Prop := (∀ i, i < L → nxT t (pth t c i) ≠ -1) ∧ nxT t (pth t c L) = -1
theorem PL.uniq {L L' : Nat} (h : PL t c L) (h' : PL t c L') : L = L' := by
  by_cases q1 : L < L'
  · exact absurd h.2 (h'.1 L q1)
  · by_cases q2 : L' < L
    · exact absurd h'.2 (h.1 L' q2)
    · omega
theorem pth_d (hV : Vd N c) (hV' : Vd N t) (ha : alk c t) : ∀ j : Nat, (∀ i, i < j → nxT t (pth t c i) ≠ -1) → sps (pth t c j) t + (j : Int) ≤ sps c t
  | 0, _ => by
    show sps c t + 0 ≤ sps c t
    omega
  | j + 1, h => by
    have ih := pth_d hV hV' ha j (fun i hi => h i (by omega))
    obtain ⟨h1, h2, h3⟩ := pth_ok hV hV' ha j
    rcases nx_ok h1 hV' h2 with ⟨-, q, -⟩ | ⟨-, -, -, -, -, -, q, -⟩
    · exact absurd q (h j (by omega))
    · rw [pth_s t c j (h j (by omega))]
      omega
theorem pth_16 (hV : Vd N c) (hV' : Vd N t) (ha : alk c t) {j : Nat} (h : ∀ i, i < j → nxT t (pth t c i) ≠ -1) : j ≤ 16 ∧ (j = 16 → nxT t (pth t c j) = -1) := by
  have h1 := pth_d hV hV' ha j h
  have h2 := (sps_r hV hV').2
  obtain ⟨h3, h4, -⟩ := pth_ok hV hV' ha j
  have h5 := (sps_r h3 hV').1
  refine ⟨by omega, fun hj => ?_⟩
  rcases nx_ok h3 hV' h4 with ⟨-, q, -⟩ | ⟨-, -, -, -, -, -, -, q⟩
  · exact q
  · omega
/-! the class -/
theorem x_endOfSurplus {x : Int} (hn : 5000 ≤ n) (h : GX μ 30 N c) (h' : GX μ g N t) (hV : Vd N c) (hV' : Vd N t) (hu : 0 ≤ u ∧ u < 8) (hx : -1 ≤ x ∧ x < 8) : fX8_endOfSurplus n g u x μ = some (byF t c u x) := by
  have hN := hV.N
  obtain ⟨y, r1, r2⟩ := lp_inv (f := fun w : Int => bX8_endOfSurplus_3 n g u x w μ) (fun k i => (i = N - (k : Int) ∧ 0 ≤ i) ∧ ∀ j, 0 ≤ j → j < i → ¬ byP t c u x j) (fun y => y = .inl () ∧ byF t c u x = -1 ∨ y = .inr (byF t c u x)) (by
    rintro k i ⟨⟨h4, h5⟩, h6⟩
    by_cases hi : i < N
    · have w1 := hV.r u i
      have w2 := hV'.r u i
      have hc : ((if i = x then 1 else 0) < c u i - t u i) ↔ byP t c u x i := by
        unfold byP
        by_cases q : i = x
        · rw [if_pos q, if_pos q]
          omega
        · rw [if_neg q, if_neg q]
          omega
      have e : bX8_endOfSurplus_3 n g u x i μ = if (if i = x then 1 else 0) < c u i - t u i then some (.inr (.inr i)) else some (.inl (i + 1)) := by
        simp (disch := omega) only [bX8_endOfSurplus_3, fX1_vertexCount, h.1, Option.bind_some, wr_id, if_pos, x_between h, x_between h']
      by_cases q : byP t c u x i
      · left
        refine ⟨.inr i, ?_, Or.inr ?_⟩
        · rw [e, if_pos (hc.mpr q)]
        · rw [byF_is (by omega) q h6]
      · right
        refine ⟨k - 1, i + 1, ?_, by omega, ⟨by omega, by omega⟩, fun j j1 j2 => ?_⟩
        · rw [e, if_neg (fun q' => q (hc.mp q'))]
        · by_cases ej : j = i
          · rw [ej]
            exact q
          · exact h6 j j1 (by omega)
    · left
      refine ⟨.inl (), ?_, Or.inl ⟨rfl, byF_no (fun j j1 j2 => ?_)⟩⟩
      · simp (disch := omega) only [bX8_endOfSurplus_3, fX1_vertexCount, h.1, Option.bind_some, wr_id, if_neg]
      · by_cases q : j < i
        · exact h6 j j1 q
        · intro q'
          unfold byP at q'
          rw [hV.z2 (v := j) (Or.inr (by omega)), hV'.z2 (v := j) (Or.inr (by omega))] at q'
          split at q' <;> omega) n N.toNat 0 ⟨⟨by omega, Int.le_refl _⟩, fun j j1 j2 => by omega⟩ (by omega)
  simp only [fX8_endOfSurplus, r1, Option.bind_some]
  rcases r2 with ⟨rfl, e⟩ | rfl
  · rw [e]
    rfl
  · rfl
theorem x_codeThatJoins (hn : 5000 ≤ n) (h : GX μ 30 N c) (h' : GX μ g N t) (hV : Vd N c) (hV' : Vd N t) (ha : alk c t) (hu : 0 ≤ u ∧ u < 8) (hv : 0 ≤ v ∧ v < 8) (hl : lkF t c = 8 * u + v) : fX8_codeThatJoins n g u v μ = some (nxT t c) := by
  rcases nx_ok hV hV' ha with ⟨q, -⟩ | ⟨-, hA, hB, q, -⟩
  · omega
  have e1 : lkF t c / 8 = u := by omega
  have e2 : lkF t c % 8 = v := by omega
  rw [e1, e2] at q
  have eA : byF t c u (-1) = nxA t c := by
    unfold nxA
    rw [e1]
  have eB : byF t c v (if u = v then nxA t c else -1) = nxB t c := by
    unfold nxB
    rw [e1, e2]
  have s1 := x_endOfSurplus (u := u) (x := -1) hn h h' hV hV' hu (by omega)
  rw [eA] at s1
  have s2 : fX8_endOfSurplus n g v (if u = v then nxA t c else -1) μ = some (nxB t c) := by
    rw [x_endOfSurplus (u := v) hn h h' hV hV' hv (by split <;> omega), eB]
  simp (disch := omega) only [fX8_codeThatJoins, s1, s2, Option.bind_some, wr_id, if_neg, x_of hu hA hv hB, q]
theorem x_nextTowards (hn : 5000 ≤ n) (h : GX μ 30 N c) (h' : GX μ g N t) (hV : Vd N c) (hV' : Vd N t) (ha : alk c t) : fX8_nextTowards n g μ = some (nxT t c) := by
  have hN := hV.N
  have big : ∀ i b, N ≤ b → ¬ c i b < t i b := fun i b hb => by
    rw [hV.z2 (v := b) (Or.inr hb), hV'.z2 (v := b) (Or.inr hb)]
    omega
  have inner : ∀ i, (0 ≤ i ∧ i < N) → (∀ a b, 0 ≤ a → a < i → a ≤ b → b < 8 → ¬ c a b < t a b) → ∃ y, lp (fun x : Int => bX8_nextTowards_15 n g i x μ) n i = some y ∧ (y = .inl () ∧ (∀ b, i ≤ b → b < 8 → ¬ c i b < t i b) ∨ y = .inr (nxT t c)) := by
    intro i hi hno
    obtain ⟨y, r1, r2⟩ := lp_inv (f := fun x : Int => bX8_nextTowards_15 n g i x μ) (fun k j => (j = N - (k : Int) ∧ i ≤ j) ∧ ∀ b, i ≤ b → b < j → ¬ c i b < t i b) (fun y => y = .inl () ∧ (∀ b, i ≤ b → b < 8 → ¬ c i b < t i b) ∨ y = .inr (nxT t c)) (by
      rintro k j ⟨⟨h4, h5⟩, h6⟩
      by_cases hj : j < N
      · have w1 := hV.r i j
        have w2 := hV'.r i j
        by_cases q : c i j < t i j
        · left
          have hl : lkF t c = 8 * i + j := lkF_is (by omega) (by omega) q hno h6
          refine ⟨.inr (nxT t c), ?_, Or.inr rfl⟩
          simp (disch := omega) only [bX8_nextTowards_15, fX1_vertexCount, h.1, Option.bind_some, wr_id, if_pos, x_between h, x_between h', x_codeThatJoins (u := i) (v := j) hn h h' hV hV' ha (by omega) (by omega) hl]
        · right
          refine ⟨k - 1, j + 1, ?_, by omega, ⟨by omega, by omega⟩, fun b b1 b2 => ?_⟩
          · simp (disch := omega) only [bX8_nextTowards_15, fX1_vertexCount, h.1, Option.bind_some, wr_id, if_pos, if_neg, x_between h, x_between h']
          · by_cases e : b = j
            · rw [e]
              exact q
            · exact h6 b b1 (by omega)
      · left
        refine ⟨.inl (), ?_, Or.inl ⟨rfl, fun b b1 b2 => ?_⟩⟩
        · simp (disch := omega) only [bX8_nextTowards_15, fX1_vertexCount, h.1, Option.bind_some, wr_id, if_neg]
        · by_cases e : b < j
          · exact h6 b b1 e
          · exact big i b (by omega)) n (N - i).toNat i ⟨⟨by omega, Int.le_refl _⟩, fun b b1 b2 => by omega⟩ (by omega)
    exact ⟨y, r1, r2⟩
  obtain ⟨y, r1, r2⟩ := lp_inv (f := fun x : Int => bX8_nextTowards_2 n g x μ) (fun k i => (i = N - (k : Int) ∧ 0 ≤ i) ∧ ∀ a b, 0 ≤ a → a < i → a ≤ b → b < 8 → ¬ c a b < t a b) (fun y => y = .inl () ∧ nxT t c = -1 ∨ y = .inr (nxT t c)) (by
    rintro k i ⟨⟨h4, h5⟩, h6⟩
    by_cases hi : i < N
    · obtain ⟨y, s1, s2⟩ := inner i ⟨h5, hi⟩ h6
      rcases s2 with ⟨rfl, s2⟩ | rfl
      · right
        refine ⟨k - 1, i + 1, ?_, by omega, ⟨by omega, by omega⟩, fun a b a1 a2 b1 b2 => ?_⟩
        · simp (disch := omega) only [bX8_nextTowards_2, fX1_vertexCount, h.1, Option.bind_some, wr_id, if_pos, s1, Sum.elim_inl]
        · by_cases e : a = i
          · rw [e]
            exact s2 b (by omega) b2
          · exact h6 a b a1 (by omega) b1 b2
      · left
        refine ⟨.inr (nxT t c), ?_, Or.inr rfl⟩
        simp (disch := omega) only [bX8_nextTowards_2, fX1_vertexCount, h.1, Option.bind_some, wr_id, if_pos, s1, Sum.elim_inr]
    · left
      refine ⟨.inl (), ?_, Or.inl ⟨rfl, ?_⟩⟩
      · simp (disch := omega) only [bX8_nextTowards_2, fX1_vertexCount, h.1, Option.bind_some, wr_id, if_neg]
      · have : lkF t c = -1 := lkF_no (fun a b a1 b1 b2 => by
          by_cases e : a < i
          · exact h6 a b a1 e b1 b2
          · exact big a b (by omega))
        exact if_pos this) n N.toNat 0 ⟨⟨by omega, Int.le_refl _⟩, fun a b a1 a2 => by omega⟩ (by omega)
  simp only [fX8_nextTowards, r1, Option.bind_some]
  rcases r2 with ⟨rfl, e⟩ | rfl
  · rw [e]
    rfl
  · rfl
theorem x_pathFind (hn : 5000 ≤ n) (h : GY μ 11 N c) (h' : GX μ 13 N t) (hV : Vd N c) (hV' : Vd N t) (ha : alk c t) : ∃ (L : Nat) (μ' : qMu), fX8_find n 11 13 μ = some μ' ∧ PL t c L ∧ L ≤ 16 ∧ rd μ' 28 2 = (L : Int) ∧ (∀ i : Nat, i < L → rd μ' 29 (i : Int) = nxT t (pth t c i)) ∧ Fr [28, 29, 30, 31] μ μ' := by
  have hN := hV.N
  have hE0 := hV.e0
  have hE1 := hV.2.2.2.2
  obtain ⟨μ1, a1, a2, a3⟩ := x_become (g := 30) (o := 11) hn h hV.bd (by decide) (by decide) (by decide) (by omega) (by omega)
  have f0 : Fr [28, 29, 30, 31] μ (up μ1 28 2 0) := (a3.wk (by simp)).tr (Fr.up (by simp))
  obtain ⟨y, r1, ν, L, r2, r3, r4, r5, r6, r7⟩ := lp_inv (f := fun x : Int × qMu => bX8_find_15 n 13 x.1 x.2) (fun k x => ∃ j : Nat, x.1 = (j : Int) ∧ j + k = 16 ∧ GY x.2 30 N (pth t c j) ∧ rd x.2 28 2 = (j : Int) ∧ (∀ i : Nat, i < j → rd x.2 29 (i : Int) = nxT t (pth t c i)) ∧ (∀ i : Nat, i < j → nxT t (pth t c i) ≠ -1) ∧ Fr [28, 29, 30, 31] μ x.2) (fun y => ∃ (ν : qMu) (L : Nat), (y = .inl ν ∨ y = .inr ν) ∧ PL t c L ∧ L ≤ 16 ∧ rd ν 28 2 = (L : Int) ∧ (∀ i : Nat, i < L → rd ν 29 (i : Int) = nxT t (pth t c i)) ∧ Fr [28, 29, 30, 31] μ ν) (by
    rintro k ⟨i, ξ⟩ ⟨j, h4, h5, h6, h7, h8, h9, h10⟩
    dsimp only at h4 h5 h6 h7 h8 h9 h10
    obtain ⟨o1, o2, -⟩ := pth_ok hV hV' ha j
    subst h4
    have hX' : GX ξ 13 N t := h'.kp (h10 13 (by decide)) (h10 14 (by decide))
    have hnx := x_nextTowards hn h6.1 hX' o1 hV' o2
    by_cases hj : j < 16
    · rcases nx_ok o1 hV' o2 with ⟨-, q, -⟩ | ⟨-, -, -, -, -, q, -⟩
      · left
        refine ⟨.inr ξ, ?_, ξ, j, Or.inr rfl, ⟨h9, q⟩, by omega, h7, h8, h10⟩
        rw [q] at hnx
        simp (disch := omega) only [bX8_find_15, wr_id, if_pos, hnx, Option.bind_some, ite_true]
      · right
        have q0 := q.1
        obtain ⟨ξ1, s1, s2, s3⟩ := x_exr h6 o1 q
        have hne : nxT t (pth t c j) ≠ -1 := by omega
        have e28 : rd (up ξ1 29 (j : Int) (nxT t (pth t c j))) 28 2 = (j : Int) := by
          rw [rd_na (by decide), rd_cg (s3 28 (by decide))]
          exact h7
        refine ⟨k - 1, ((j : Int) + 1, up (up ξ1 29 (j : Int) (nxT t (pth t c j))) 28 2 ((j : Int) + 1)), ?_, by omega, j + 1, by dsimp only; omega, by omega, ?_, ?_, fun i hi => ?_, fun i hi => ?_, ?_⟩
        · simp (disch := omega) only [bX8_find_15, wr_id, if_pos, if_neg, hnx, Option.bind_some, s1, qSa_in, qPf_eq, e28]
        · dsimp only
          rw [pth_s t c j hne]
          exact (s2.kp (up_ne (μ := ξ1) (a := 29) (b := 30) (i := (j : Int)) (v := nxT t (pth t c j)) (by decide)) (up_ne (μ := ξ1) (a := 29) (b := 31) (i := (j : Int)) (v := nxT t (pth t c j)) (by decide))).kp (up_ne (a := 28) (b := 30) (i := 2) (v := (j : Int) + 1) (by decide)) (up_ne (a := 28) (b := 31) (i := 2) (v := (j : Int) + 1) (by decide))
        · dsimp only
          rw [rd_at]
          exact wr_id (by omega) (by omega)
        · dsimp only
          rw [rd_na (by decide)]
          by_cases e : i = j
          · rw [e, rd_at]
            exact wr_id (by omega) (by omega)
          · rw [rd_ni (by omega), rd_cg (s3 29 (by decide))]
            exact h8 i (by omega)
        · by_cases e : i = j
          · rw [e]
            exact hne
          · exact h9 i (by omega)
        · exact ((h10.tr (s3.wk (by simp))).tr (Fr.up (by simp))).tr (Fr.up (by simp))
    · left
      have hj16 : j = 16 := by omega
      refine ⟨.inl ξ, ?_, ξ, j, Or.inl rfl, ⟨h9, (pth_16 hV hV' ha h9).2 hj16⟩, by omega, h7, h8, h10⟩
      simp (disch := omega) only [bX8_find_15, wr_id, if_neg]) n 16 (0, up μ1 28 2 0) ⟨0, rfl, rfl, a2.kp (up_ne (μ := μ1) (a := 28) (b := 30) (i := 2) (v := 0) (by decide)) (up_ne (μ := μ1) (a := 28) (b := 31) (i := 2) (v := 0) (by decide)), by dsimp only; rw [rd_at]; rfl, fun i hi => absurd hi (Nat.not_lt_zero i), fun i hi => absurd hi (Nat.not_lt_zero i), f0⟩ (by omega)
  refine ⟨L, ν, ?_, r3, r4, r5, r6, r7⟩
  simp only [fX8_find, a1, Option.bind_some, qPf_eq, r1]
  rcases r2 with rfl | rfl <;> rfl
theorem x_follows {f : Int} {L : Nat} (hn : 5000 ≤ n) (h : GY μ 11 N c) (hV : Vd N c) (hV' : Vd N t) (ha : alk c t) (hf : 0 ≤ f ∧ f ≤ 16) (hL : PL t c L) (h16 : L ≤ 16) (hl : rd μ 28 2 = (L : Int)) (hc : ∀ i : Nat, i < L → rd μ 29 (i : Int) = nxT t (pth t c i)) : ∃ μ', lp (fun x : Int × qMu => bX9_follow_46 n f x.1 x.2) n (0, μ) = some μ' ∧ GY μ' 11 N (pth t c (min f.toNat L)) ∧ Fr [11, 12] μ μ' := by
  obtain ⟨y, r1, r2, r3⟩ := lp_inv (f := fun x : Int × qMu => bX9_follow_46 n f x.1 x.2) (fun k x => ∃ j : Nat, x.1 = (j : Int) ∧ j + k = min f.toNat L ∧ GY x.2 11 N (pth t c j) ∧ Fr [11, 12] μ x.2) (fun y => GY y 11 N (pth t c (min f.toNat L)) ∧ Fr [11, 12] μ y) (by
    rintro k ⟨i, ξ⟩ ⟨j, h4, h5, h6, h10⟩
    dsimp only at h4 h5 h6 h10
    obtain ⟨o1, o2, -⟩ := pth_ok hV hV' ha j
    subst h4
    have e28 : rd ξ 28 2 = (L : Int) := by
      rw [rd_cg (h10 28 (by decide))]
      exact hl
    by_cases hj : j < min f.toNat L
    · right
      have hne := hL.1 j (by omega)
      rcases nx_ok o1 hV' o2 with ⟨-, q, -⟩ | ⟨-, -, -, -, -, q, -⟩
      · exact absurd q hne
      · obtain ⟨ξ1, s1, s2, s3⟩ := x_exr h6 o1 q
        have e29 : rd ξ 29 (j : Int) = nxT t (pth t c j) := by
          rw [rd_cg (h10 29 (by decide))]
          exact hc j (by omega)
        refine ⟨k - 1, ((j : Int) + 1, ξ1), ?_, by omega, j + 1, by dsimp only; omega, by omega, ?_, h10.tr s3⟩
        · simp (disch := omega) only [bX9_follow_46, fX8_length, fX8_codeAt, e28, wr_id, if_pos, Option.bind_some, qLd_in, e29, s1]
        · dsimp only
          rw [pth_s t c j hne]
          exact s2
    · left
      have hje : j = min f.toNat L := by omega
      refine ⟨ξ, ?_, hje ▸ h6, h10⟩
      by_cases q : (j : Int) < f
      · simp (disch := omega) only [bX9_follow_46, fX8_length, e28, wr_id, if_pos, if_neg, Option.bind_some]
      · simp (disch := omega) only [bX9_follow_46, wr_id, if_neg]) n (min f.toNat L) (0, μ) ⟨0, rfl, Nat.zero_add _, h, Fr.rf _ _⟩ (by omega)
  exact ⟨y, r1, r2, r3⟩
/-! the reference -/
theorem m_beyond (h : SM μ N m c t) {w : Int} (hu : 0 ≤ u ∧ u < 8) (hw : 0 ≤ w ∧ w < 8) : fX10_beyond u w μ = some (c u w - t u w) := by
  simp only [fX10_beyond, m_many h.2.2.1 (Or.inl rfl) hu hw, m_many h.2.2.2 (Or.inr rfl) hu hw, Option.bind_some]
theorem m_firstLacking (hn : 5000 ≤ n) (h : SM μ N m c t) (hV : Vd N c) (hV' : Vd N t) : fX10_firstLacking n μ = some (lkF t c) := by
  have inner : ∀ i, (0 ≤ i ∧ i < 8) → (∀ a b, 0 ≤ a → a < i → a ≤ b → b < 8 → ¬ c a b < t a b) → ∃ y, lp (fun x : Int => bX10_firstLacking_10 n i x μ) n i = some y ∧ (y = .inl () ∧ (∀ b, i ≤ b → b < 8 → ¬ c i b < t i b) ∨ y = .inr (lkF t c)) := by
    intro i hi hno
    obtain ⟨y, r1, r2⟩ := lp_inv (f := fun x : Int => bX10_firstLacking_10 n i x μ) (fun k j => (j = 8 - (k : Int) ∧ i ≤ j) ∧ ∀ b, i ≤ b → b < j → ¬ c i b < t i b) (fun y => y = .inl () ∧ (∀ b, i ≤ b → b < 8 → ¬ c i b < t i b) ∨ y = .inr (lkF t c)) (by
      rintro k j ⟨⟨h4, h5⟩, h6⟩
      by_cases hj : j < 8
      · have w1 := hV.r i j
        have w2 := hV'.r i j
        by_cases q : c i j < t i j
        · left
          have hl : lkF t c = 8 * i + j := lkF_is (by omega) (by omega) q hno h6
          refine ⟨.inr (lkF t c), ?_, Or.inr rfl⟩
          rw [hl]
          simp (disch := omega) only [bX10_firstLacking_10, m_beyond h, Option.bind_some, wr_id, if_pos]
        · right
          refine ⟨k - 1, j + 1, ?_, by omega, ⟨by omega, by omega⟩, fun b b1 b2 => ?_⟩
          · simp (disch := omega) only [bX10_firstLacking_10, m_beyond h, Option.bind_some, wr_id, if_pos, if_neg]
          · by_cases e : b = j
            · rw [e]
              exact q
            · exact h6 b b1 (by omega)
      · left
        refine ⟨.inl (), ?_, Or.inl ⟨rfl, fun b b1 b2 => h6 b b1 (by omega)⟩⟩
        simp (disch := omega) only [bX10_firstLacking_10, wr_id, if_neg]) n (8 - i).toNat i ⟨⟨by omega, Int.le_refl _⟩, fun b b1 b2 => by omega⟩ (by omega)
    exact ⟨y, r1, r2⟩
  obtain ⟨y, r1, r2⟩ := lp_inv (f := fun x : Int => bX10_firstLacking_2 n x μ) (fun k i => (i = 8 - (k : Int) ∧ 0 ≤ i) ∧ ∀ a b, 0 ≤ a → a < i → a ≤ b → b < 8 → ¬ c a b < t a b) (fun y => y = .inl () ∧ lkF t c = -1 ∨ y = .inr (lkF t c)) (by
    rintro k i ⟨⟨h4, h5⟩, h6⟩
    by_cases hi : i < 8
    · obtain ⟨y, s1, s2⟩ := inner i ⟨h5, hi⟩ h6
      rcases s2 with ⟨rfl, s2⟩ | rfl
      · right
        refine ⟨k - 1, i + 1, ?_, by omega, ⟨by omega, by omega⟩, fun a b a1 a2 b1 b2 => ?_⟩
        · simp (disch := omega) only [bX10_firstLacking_2, Option.bind_some, wr_id, if_pos, s1, Sum.elim_inl]
        · by_cases e : a = i
          · rw [e]
            exact s2 b (by omega) b2
          · exact h6 a b a1 (by omega) b1 b2
      · left
        refine ⟨.inr (lkF t c), ?_, Or.inr rfl⟩
        simp (disch := omega) only [bX10_firstLacking_2, Option.bind_some, wr_id, if_pos, s1, Sum.elim_inr]
    · left
      refine ⟨.inl (), ?_, Or.inl ⟨rfl, lkF_no (fun a b a1 b1 b2 => h6 a b a1 (by omega) b1 b2)⟩⟩
      simp (disch := omega) only [bX10_firstLacking_2, wr_id, if_neg]) n 8 0 ⟨⟨rfl, Int.le_refl _⟩, fun a b a1 a2 => by omega⟩ (by omega)
  simp only [fX10_firstLacking, r1, Option.bind_some]
  rcases r2 with ⟨rfl, e⟩ | rfl
  · rw [e]
    rfl
  · rfl
theorem m_firstBeyond {x z : Int} (hn : 5000 ≤ n) (h : SM μ N m c t) (hV : Vd N c) (hV' : Vd N t) (hu : 0 ≤ u ∧ u < 8) (hx : -1 ≤ x ∧ x < 8) (hz : z = 2 ∨ (z = 1 ∧ x = -1)) : fX10_firstBeyond n u x z μ = some (byF t c u x) := by
  obtain ⟨y, r1, r2⟩ := lp_inv (f := fun w : Int => bX10_firstBeyond_3 n u x z w μ) (fun k i => (i = 8 - (k : Int) ∧ 0 ≤ i) ∧ ∀ j, 0 ≤ j → j < i → ¬ byP t c u x j) (fun y => y = .inl () ∧ byF t c u x = -1 ∨ y = .inr (byF t c u x)) (by
    rintro k i ⟨⟨h4, h5⟩, h6⟩
    by_cases hi : i < 8
    · have w1 := hV.r u i
      have w2 := hV'.r u i
      have hc : (c u i - t u i < (if i = x then z else 1)) ↔ ¬ byP t c u x i := by
        unfold byP
        by_cases q : i = x
        · rw [if_pos q, if_pos q]
          omega
        · rw [if_neg q, if_neg q]
          omega
      have hzr : 1 ≤ (if i = x then z else 1) ∧ (if i = x then z else 1) ≤ 2 := by
        split <;> omega
      have e : bX10_firstBeyond_3 n u x z i μ = if c u i - t u i < (if i = x then z else 1) then some (.inl (i + 1)) else some (.inr (.inr i)) := by
        simp (disch := omega) only [bX10_firstBeyond_3, m_beyond h, Option.bind_some, wr_id, if_pos]
      by_cases q : byP t c u x i
      · left
        refine ⟨.inr i, ?_, Or.inr ?_⟩
        · rw [e, if_neg (fun q' => (hc.mp q') q)]
        · rw [byF_is (by omega) q h6]
      · right
        refine ⟨k - 1, i + 1, ?_, by omega, ⟨by omega, by omega⟩, fun j j1 j2 => ?_⟩
        · rw [e, if_pos (hc.mpr q)]
        · by_cases ej : j = i
          · rw [ej]
            exact q
          · exact h6 j j1 (by omega)
    · left
      refine ⟨.inl (), ?_, Or.inl ⟨rfl, byF_no (fun j j1 j2 => h6 j j1 (by omega))⟩⟩
      simp (disch := omega) only [bX10_firstBeyond_3, wr_id, if_neg]) n 8 0 ⟨⟨rfl, Int.le_refl _⟩, fun j j1 j2 => by omega⟩ (by omega)
  simp only [fX10_firstBeyond, r1, Option.bind_some]
  rcases r2 with ⟨rfl, e⟩ | rfl
  · rw [e]
    rfl
  · rfl
theorem m_goesPath (hn : 5000 ≤ n) (h : SM μ N m c t) (hV : Vd N c) (hV' : Vd N t) (ha : alk c t) : ∃ (L : Nat) (μ' : qMu), fX10_goesPath n μ = some ((L : Int), μ') ∧ PL t c L ∧ L ≤ 16 ∧ (∀ i : Nat, i < L → rd μ' 90 (i : Int) = nxT t (pth t c i)) ∧ Fr [79, 90] μ μ' := by
  obtain ⟨y, r1, L, r2, r3, r4, r5, r7⟩ := lp_inv (f := fun x : Int × Int × qMu => bX10_goesPath_7 n x.1 x.2.1 x.2.2) (fun k x => ∃ j : Nat, x.1 = (j : Int) ∧ j + k = 16 ∧ SM x.2.2 N m (pth t c j) t ∧ x.2.1 = lkF t (pth t c j) ∧ (∀ i : Nat, i < j → rd x.2.2 90 (i : Int) = nxT t (pth t c i)) ∧ (∀ i : Nat, i < j → nxT t (pth t c i) ≠ -1) ∧ Fr [79, 90] μ x.2.2) (fun y => ∃ L : Nat, y.1 = (L : Int) ∧ PL t c L ∧ L ≤ 16 ∧ (∀ i : Nat, i < L → rd y.2 90 (i : Int) = nxT t (pth t c i)) ∧ Fr [79, 90] μ y.2) (by
    rintro k ⟨z, l, ξ⟩ ⟨j, h4, h5, h6, h7, h8, h9, h10⟩
    dsimp only at h4 h5 h6 h7 h8 h9 h10
    obtain ⟨o1, o2, -⟩ := pth_ok hV hV' ha j
    subst h4 h7
    rcases nx_ok o1 hV' o2 with ⟨q1, q, -⟩ | ⟨q1, hA, hB, q2, q3, q, -, q9⟩
    · left
      refine ⟨((j : Int), ξ), ?_, j, rfl, ⟨h9, q⟩, by omega, h8, h10⟩
      rw [q1]
      simp (disch := omega) only [bX10_goesPath_7, wr_id, if_pos, ite_true]
    · right
      have q0 := q.1
      have hne : nxT t (pth t c j) ≠ -1 := by omega
      have hj : j < 16 := by
        have := pth_d hV hV' ha j h9
        have := (sps_r hV hV').2
        omega
      obtain ⟨d1, d2⟩ := dv8 q1
      have hu : 0 ≤ lkF t (pth t c j) / 8 ∧ lkF t (pth t c j) / 8 < 8 := by omega
      have hv : 0 ≤ lkF t (pth t c j) % 8 ∧ lkF t (pth t c j) % 8 < 8 := by omega
      have s1 : fX10_firstBeyond n (lkF t (pth t c j) / 8) (-1) 1 ξ = some (nxA t (pth t c j)) := m_firstBeyond hn h6 o1 hV' hu (by omega) (Or.inr ⟨rfl, rfl⟩)
      have s2 : fX10_firstBeyond n (lkF t (pth t c j) % 8) (if lkF t (pth t c j) / 8 = lkF t (pth t c j) % 8 then nxA t (pth t c j) else -1) 2 ξ = some (nxB t (pth t c j)) := m_firstBeyond hn h6 o1 hV' hv (by split <;> omega) (Or.inl rfl)
      obtain ⟨ξ1, s3, s4, s5⟩ := m_switches (h6.kp (up_ne (μ := ξ) (a := 90) (b := 79) (i := (j : Int)) (v := nxT t (pth t c j)) (by decide))) o1 hV' q3
      have e5 : sw (pth t c j) (lkF t (pth t c j) / 8) (nxA t (pth t c j)) (lkF t (pth t c j) % 8) (nxB t (pth t c j)) = pth t c (j + 1) := by
        rw [pth_s t c j hne]
        have := (swk_cd (c := pth t c j) hu hA hv hB).1
        rw [← q2] at this
        exact this.symm
      rw [e5] at s4
      have s6 := m_firstLacking hn s4 (pth_ok hV hV' ha (j + 1)).1 hV'
      refine ⟨k - 1, ((j : Int) + 1, lkF t (pth t c (j + 1)), ξ1), ?_, by omega, j + 1, by dsimp only; omega, by omega, s4, rfl, fun i hi => ?_, fun i hi => ?_, (h10.tr (Fr.up (by simp))).tr (s5.wk (by simp))⟩
      · simp (disch := omega) only [bX10_goesPath_7, d1, d2, wr_id, if_neg, s1, s2, m_codeOf, Option.bind_some, ← q2, qSa_in, s3, s6]
      · dsimp only
        rw [rd_cg (s5 90 (by decide))]
        by_cases e : i = j
        · rw [e, rd_at]
          exact wr_id (by omega) (by omega)
        · rw [rd_ni (by omega)]
          exact h8 i (by omega)
      · by_cases e : i = j
        · rw [e]
          exact hne
        · exact h9 i (by omega)) n 16 (0, lkF t c, μ) ⟨0, rfl, rfl, h, rfl, fun i hi => absurd hi (Nat.not_lt_zero i), fun i hi => absurd hi (Nat.not_lt_zero i), Fr.rf _ _⟩ (by omega)
  refine ⟨L, y.2, ?_, r3, r4, r5, r7⟩
  simp only [fX10_goesPath, m_firstLacking hn h hV hV', r1, r2, Option.bind_some]
theorem m_putAside (hn : 5000 ≤ n) : ∃ μ', fX10_putAside n μ = some μ' ∧ (∀ i, 0 ≤ i → i < 130 → rd μ' 80 i = rd μ 79 i) ∧ Fr [80] μ μ' := by
  obtain ⟨y, r1, r2, r3⟩ := lp_inv (f := fun x : Int × qMu => bX10_putAside_2 n x.1 x.2) (fun k x => (x.1 = 130 - (k : Int) ∧ 0 ≤ x.1) ∧ (∀ i, 0 ≤ i → i < x.1 → rd x.2 80 i = rd μ 79 i) ∧ Fr [80] μ x.2) (fun y => (∀ i, 0 ≤ i → i < 130 → rd y 80 i = rd μ 79 i) ∧ Fr [80] μ y) (by
    rintro k ⟨i, ξ⟩ ⟨⟨h4, h5⟩, h6, h7⟩
    dsimp only at h4 h5 h6 h7
    by_cases hi : i < 130
    · right
      have e : rd ξ 79 i = rd μ 79 i := rd_cg (h7 79 (by decide)) i
      refine ⟨k - 1, (i + 1, up ξ 80 i (rd μ 79 i)), ?_, by omega, ⟨by dsimp only; omega, by dsimp only; omega⟩, fun j j1 j2 => ?_, h7.tr (Fr.up (by simp))⟩
      · simp (disch := omega) only [bX10_putAside_2, wr_id, if_pos, qLd_in, qSa_in, Option.bind_some, e]
      · dsimp only at j2 ⊢
        by_cases q : j = i
        · rw [q, rd_at, wr_rd]
        · rw [rd_ni q]
          exact h6 j j1 (by omega)
    · left
      refine ⟨ξ, ?_, fun j j1 j2 => h6 j j1 (by omega), h7⟩
      simp (disch := omega) only [bX10_putAside_2, wr_id, if_neg]) n 130 (0, μ) ⟨⟨rfl, Int.le_refl _⟩, fun j j1 j2 => by dsimp only at j2; omega, Fr.rf _ _⟩ (by omega)
  refine ⟨y, ?_, r2, r3⟩
  simp only [fX10_putAside, r1, Option.bind_some]
theorem m_layBack (hn : 5000 ≤ n) : ∃ μ', fX10_layBack n μ = some μ' ∧ (∀ i, 0 ≤ i → i < 130 → rd μ' 79 i = rd μ 80 i) ∧ Fr [79] μ μ' := by
  obtain ⟨y, r1, r2, r3⟩ := lp_inv (f := fun x : Int × qMu => bX10_layBack_2 n x.1 x.2) (fun k x => (x.1 = 130 - (k : Int) ∧ 0 ≤ x.1) ∧ (∀ i, 0 ≤ i → i < x.1 → rd x.2 79 i = rd μ 80 i) ∧ Fr [79] μ x.2) (fun y => (∀ i, 0 ≤ i → i < 130 → rd y 79 i = rd μ 80 i) ∧ Fr [79] μ y) (by
    rintro k ⟨i, ξ⟩ ⟨⟨h4, h5⟩, h6, h7⟩
    dsimp only at h4 h5 h6 h7
    by_cases hi : i < 130
    · right
      have e : rd ξ 80 i = rd μ 80 i := rd_cg (h7 80 (by decide)) i
      refine ⟨k - 1, (i + 1, up ξ 79 i (rd μ 80 i)), ?_, by omega, ⟨by dsimp only; omega, by dsimp only; omega⟩, fun j j1 j2 => ?_, h7.tr (Fr.up (by simp))⟩
      · simp (disch := omega) only [bX10_layBack_2, wr_id, if_pos, qLd_in, qSa_in, Option.bind_some, e]
      · dsimp only at j2 ⊢
        by_cases q : j = i
        · rw [q, rd_at, wr_rd]
        · rw [rd_ni q]
          exact h6 j j1 (by omega)
    · left
      refine ⟨ξ, ?_, fun j j1 j2 => h6 j j1 (by omega), h7⟩
      simp (disch := omega) only [bX10_layBack_2, wr_id, if_neg]) n 130 (0, μ) ⟨⟨rfl, Int.le_refl _⟩, fun j j1 j2 => by dsimp only at j2; omega, Fr.rf _ _⟩ (by omega)
  refine ⟨y, ?_, r2, r3⟩
  simp only [fX10_layBack, r1, Option.bind_some]
theorem SM.ld {μ' : qMu} (h : SM μ N m c t) (h1 : ∀ i, 0 ≤ i → i < 130 → rd μ' 79 i = rd μ 79 i) : SM μ' N m c t := by
  refine ⟨(h1 0 (by omega) (by omega)).trans h.1, (h1 1 (by omega) (by omega)).trans h.2.1, fun u v hu hv => ?_, fun u v hu hv => ?_⟩
  · exact (h1 _ (by omega) (by omega)).trans (h.2.2.1 u v hu hv)
  · exact (h1 _ (by omega) (by omega)).trans (h.2.2.2 u v hu hv)
theorem m_laysPath (hn : 5000 ≤ n) (h : SM μ N m c t) (hV : Vd N c) (hV' : Vd N t) (ha : alk c t) : ∃ (L : Nat) (μ' : qMu), fX10_laysPath n μ = some ((L : Int), μ') ∧ PL t c L ∧ L ≤ 16 ∧ (∀ i : Nat, i < L → rd μ' 90 (i : Int) = nxT t (pth t c i)) ∧ SM μ' N m c t ∧ Fr [79, 80, 90] μ μ' := by
  obtain ⟨μ1, a1, a2, a3⟩ := m_putAside (μ := μ) hn
  obtain ⟨L, μ2, b1, b2, b3, b4, b5⟩ := m_goesPath hn (h.kp (a3 79 (by decide))) hV hV' ha
  obtain ⟨μ3, d1, d2, d3⟩ := m_layBack (μ := μ2) hn
  refine ⟨L, μ3, ?_, b2, b3, fun i hi => ?_, h.ld (fun i i1 i2 => ?_), ((a3.wk (by simp)).tr (b5.wk (by simp))).tr (d3.wk (by simp))⟩
  · simp only [fX10_laysPath, a1, b1, d1, Option.bind_some]
  · rw [rd_cg (d3 90 (by decide))]
    exact b4 i hi
  · rw [d2 i i1 i2, rd_cg (b5 80 (by decide)), a2 i i1 i2]
theorem m_follows {f : Int} {L : Nat} (hn : 5000 ≤ n) (h : SM μ N m c t) (hV : Vd N c) (hV' : Vd N t) (ha : alk c t) (hf : 0 ≤ f ∧ f ≤ 16) (hL : PL t c L) (h16 : L ≤ 16) (hc : ∀ i : Nat, i < L → rd μ 90 (i : Int) = nxT t (pth t c i)) : ∃ μ', lp (fun x : Int × qMu => bX10_follow_31 n f (L : Int) x.1 x.2) n (0, μ) = some μ' ∧ SM μ' N m (pth t c (min f.toNat L)) t ∧ Fr [79] μ μ' := by
  have em : mn f (L : Int) = ((min f.toNat L : Nat) : Int) := by
    rw [mn_id (by omega) (by omega)]
    split <;> omega
  obtain ⟨y, r1, r2, r3⟩ := lp_inv (f := fun x : Int × qMu => bX10_follow_31 n f (L : Int) x.1 x.2) (fun k x => ∃ j : Nat, x.1 = (j : Int) ∧ j + k = min f.toNat L ∧ SM x.2 N m (pth t c j) t ∧ Fr [79] μ x.2) (fun y => SM y N m (pth t c (min f.toNat L)) t ∧ Fr [79] μ y) (by
    rintro k ⟨i, ξ⟩ ⟨j, h4, h5, h6, h10⟩
    dsimp only at h4 h5 h6 h10
    obtain ⟨o1, o2, -⟩ := pth_ok hV hV' ha j
    subst h4
    by_cases hj : j < min f.toNat L
    · right
      have hne := hL.1 j (by omega)
      rcases nx_ok o1 hV' o2 with ⟨-, q, -⟩ | ⟨-, -, -, -, -, q, -⟩
      · exact absurd q hne
      · obtain ⟨ξ1, s1, s2, s3⟩ := m_swr h6 o1 hV' q
        have e29 : rd ξ 90 (j : Int) = nxT t (pth t c j) := by
          rw [rd_cg (h10 90 (by decide))]
          exact hc j (by omega)
        refine ⟨k - 1, ((j : Int) + 1, ξ1), ?_, by omega, j + 1, by dsimp only; omega, by omega, ?_, h10.tr s3⟩
        · simp (disch := omega) only [bX10_follow_31, em, wr_id, if_pos, Option.bind_some, qLd_in, e29, s1]
        · dsimp only
          rw [pth_s t c j hne]
          exact s2
    · left
      have hje : j = min f.toNat L := by omega
      refine ⟨ξ, ?_, hje ▸ h6, h10⟩
      simp (disch := omega) only [bX10_follow_31, em, wr_id, if_neg]) n (min f.toNat L) (0, μ) ⟨0, rfl, Nat.zero_add _, h, Fr.rf _ _⟩ (by omega)
  exact ⟨y, r1, r2, r3⟩
end PTM
