/-! CONNECT, SIMPLIFY -/
/-- switch by switch, till none is wanted -/
noncomputable def itG (C : (Int → Int → Int) → Int) : Nat → (Int → Int → Int) → Int → Int → Int
  | 0, c => c
  | k + 1, c => if C c = -1 then c else itG C k (swk c (C c))
theorem itG_e {C : (Int → Int → Int) → Int} {c : Int → Int → Int} (h : C c = -1) : ∀ k, itG C k c = c
  | 0 => rfl
  | k + 1 => if_pos h
theorem itG_s {C : (Int → Int → Int) → Int} {c : Int → Int → Int} (h : ¬ C c = -1) (k : Nat) : itG C (k + 1) c = itG C k (swk c (C c)) := if_neg h
/-- a choice of switches of a mode that lowers something -/
def Ch (N p : Int) (C M : (Int → Int → Int) → Int) : Prop := ∀ c, Vd N c → 0 ≤ M c ∧ (C c = -1 ∨ ((0 ≤ C c ∧ C c < 4096) ∧ okc p c (C c) ∧ M (swk c (C c)) < M c))
theorem itG_ok {N p : Int} {C M : (Int → Int → Int) → Int} (hC : Ch N p C M) : ∀ (k : Nat) (c : Int → Int → Int), Vd N c → Vd N (itG C k c) ∧ Ed (itG C k c) = Ed c ∧ ∀ w, dgs (itG C k c) w = dgs c w
  | 0, c, hV => ⟨hV, rfl, fun _ => rfl⟩
  | k + 1, c, hV => by
    by_cases h : C c = -1
    · rw [itG_e h]
      exact ⟨hV, rfl, fun _ => rfl⟩
    · rw [itG_s h]
      rcases (hC c hV).2 with h' | ⟨h1, h2, h3⟩
      · exact absurd h' h
      · obtain ⟨q1, q2, q3⟩ := swk_ok hV h2
        obtain ⟨r1, r2, r3⟩ := itG_ok hC k (swk c (C c)) q1
        exact ⟨r1, r2.trans q2, fun w => (r3 w).trans (q3 w)⟩
section CON
variable {μ ν : qMu} {n : Nat} {N m p : Int} {c t : Int → Int → Int}
def cnP (N p : Int) (c : Int → Int → Int) (i : Int) : Prop := cwe N (swk c (lkc p c i)) < cwe N c
noncomputable def cnS (N p : Int) (c : Int → Int → Int) : Int := fsi (cnP N p c) (lsz p c)
noncomputable def cnC (N p : Int) (c : Int → Int → Int) : Int := if cnS N p c = -1 then -1 else lkc p c (cnS N p c)
theorem cnS_ok (N p : Int) (c : Int → Int → Int) : FS (cnP N p c) (lsz p c) (cnS N p c) := fsi_ok (lsz_nn p c)
theorem cnC_n (h : ∀ i, 0 ≤ i → i < lsz p c → ¬ cnP N p c i) : cnC N p c = -1 := by
  have e : cnS N p c = -1 := FS.uniq (cnS_ok N p c) (Or.inl ⟨rfl, h⟩)
  unfold cnC
  rw [if_pos e]
theorem cnC_i {i : Int} (hi : 0 ≤ i ∧ i < lsz p c) (h : cnP N p c i) (h' : ∀ j, 0 ≤ j → j < i → ¬ cnP N p c j) : cnC N p c = lkc p c i := by
  have e : cnS N p c = i := FS.uniq (cnS_ok N p c) (Or.inr ⟨hi, h, h'⟩)
  unfold cnC
  rw [e, if_neg (by omega)]
theorem cn_Ch (hN : 1 ≤ N ∧ N ≤ 8) : Ch N p (cnC N p) (cwe N) := by
  intro c hV
  refine ⟨(cwe_r hN).1, ?_⟩
  rcases cnS_ok N p c with ⟨h, -⟩ | ⟨h1, h2, -⟩
  · left
    unfold cnC
    rw [if_pos h]
  · right
    have e : cnC N p c = lkc p c (cnS N p c) := by
      unfold cnC
      rw [if_neg (by omega)]
    obtain ⟨k1, k2, k3⟩ := lkc_ok h1.1 h1.2
    rw [e]
    exact ⟨k1, k2, h2⟩
theorem x_firstConnecting (hn : 5000 ≤ n) (h : GY μ 11 N c) (hV : Vd N c) (hp : rd μ 0 11 = p) (hpr : 0 ≤ p ∧ p ≤ 2) : ∃ μ', fX9_firstConnecting n μ = some (cnC N p c, μ') ∧ Fr [15, 16, 19, 20, 26, 27] μ μ' := by
  have hN := hV.N
  have hS := lsz_le (p := p) hV
  have hS0 := lsz_nn p c
  have hE0 := hV.e0
  have hE1 := hV.2.2.2.2
  have hw := cwe_r (c := c) hN
  obtain ⟨μ0, p1, p2⟩ := x_partsWithEdges hn h.1 hV (g := 11) (by decide)
  have h0 : GY μ0 11 N c := h.kp (p2 11 (by decide)) (p2 12 (by decide))
  have hp0 : rd μ0 0 11 = p := by rw [rd_cg (p2 0 (by decide))]; exact hp
  obtain ⟨μ1, a1, a2, a3, a4⟩ := x_fill (p := p) hn h0.1 hV hpr (by decide)
  obtain ⟨μ2, b1, b2, b3⟩ := x_become (g := 15) (o := 11) hn (h0.kp (a4 11 (by decide)) (a4 12 (by decide))) hV.bd (by decide) (by decide) (by decide) (by omega) (by omega)
  have f2 : Fr [15, 16, 19, 20, 26, 27] μ μ2 := ((p2.wk (by simp)).tr (a4.wk (by simp))).tr (b3.wk (by simp))
  obtain ⟨b, r1, ν, r2, r3⟩ := lp_inv (f := fun x : Int × qMu => bX9_firstConnecting_37 n (cwe N c) x.1 x.2) (fun k x => (x.1 = lsz p c - (k : Int) ∧ 0 ≤ x.1) ∧ (GY x.2 15 N c ∧ rd x.2 26 1 = lsz p c ∧ Lst p c x.2 27 4096 ∧ Fr [15, 16, 19, 20, 26, 27] μ x.2) ∧ ∀ j, 0 ≤ j → j < x.1 → ¬ cnP N p c j) (fun y => ∃ ν, Fr [15, 16, 19, 20, 26, 27] μ ν ∧ (y = .inl ν ∧ cnC N p c = -1 ∨ y = .inr (cnC N p c, ν))) (by
    rintro k ⟨i, ξ⟩ ⟨⟨h4, h5⟩, ⟨h6, h7, h8, h9⟩, h10⟩
    dsimp only at h4 h5 h6 h7 h8 h9 h10
    by_cases hi : i < lsz p c
    · obtain ⟨q1, ξ1, q2, q3, q4, kb, q5, q6⟩ := x_probe h6 h8 hV ⟨h5, hi⟩
      obtain ⟨k1, k2, k3⟩ := lkc_ok h5 hi
      have hV2 := (swk_ok hV k2).1
      obtain ⟨ξ2, s1, s2⟩ := x_partsWithEdges hn q3.1 hV2 (g := 15) (by decide)
      have hw2 := cwe_r (c := swk c (lkc p c i)) hN
      have e0 : fX7_length ξ = some (lsz p c) := by
        rw [← h7]
        rfl
      obtain ⟨t1, ξ3, t2, t3, t4, t5⟩ := q6 ξ2 (s2 15 (by decide)) (s2 16 (by decide)) (s2 27 (by decide))
      have fr : Fr [15, 16, 19, 20] ξ ξ3 := ((q4.wk (by simp)).tr (s2.wk (by simp))).tr (t4.wk (by simp))
      have fr9 : Fr [15, 16, 19, 20, 26, 27] μ ξ3 := h9.tr (fr.wk (by simp))
      by_cases hc : cwe N (swk c (lkc p c i)) < cwe N c
      · left
        refine ⟨.inr (cnC N p c, ξ3), ?_, ξ3, fr9, Or.inr rfl⟩
        rw [cnC_i ⟨h5, hi⟩ hc h10]
        show bX9_firstConnecting_37 n (cwe N c) i ξ = _
        unfold bX9_firstConnecting_37
        rw [e0, obs, wr_id (by omega) (by omega), wr_id (by omega) (by omega), if_pos hi, q1, obs, q2, obs, s1, obs]
        dsimp only
        rw [t1, obs, q5, obs, t2, obs, wr_id (by omega) (by omega), wr_id (by omega) (by omega), if_pos hc, t5, obs]
      · right
        refine ⟨k - 1, (i + 1, ξ3), ?_, by omega, ⟨by dsimp only; omega, by dsimp only; omega⟩, ⟨t3, ?_, ?_, fr9⟩, fun j j1 j2 => ?_⟩
        · show bX9_firstConnecting_37 n (cwe N c) i ξ = _
          unfold bX9_firstConnecting_37
          rw [e0, obs, wr_id (by omega) (by omega), wr_id (by omega) (by omega), if_pos hi, q1, obs, q2, obs, s1, obs]
          dsimp only
          rw [t1, obs, q5, obs, t2, obs, wr_id (by omega) (by omega), wr_id (by omega) (by omega), if_neg hc]
        · dsimp only
          rw [rd_cg (fr 26 (by decide))]
          exact h7
        · intro j j1 j2 hj
          dsimp only
          rw [rd_cg (fr 27 (by decide))]
          exact h8 j j1 j2 hj
        · dsimp only at j2
          by_cases e : j = i
          · rw [e]
            exact hc
          · exact h10 j j1 (by omega)
    · left
      have hiS : i = lsz p c := by omega
      refine ⟨.inl ξ, ?_, ξ, h9, Or.inl ⟨rfl, cnC_n (fun j j1 j2 => h10 j j1 (by omega))⟩⟩
      simp (disch := omega) only [bX9_firstConnecting_37, fX7_length, h7, Option.bind_some, wr_id, if_neg]) n (lsz p c).toNat (0, μ2) ⟨⟨by dsimp only; omega, Int.le_refl _⟩, ⟨b2, by dsimp only; rw [rd_cg (b3 26 (by decide))]; exact a2, fun j j1 j2 hj => by dsimp only; rw [rd_cg (b3 27 (by decide))]; exact a3 j j1 j2 hj, f2⟩, fun j j1 j2 => by dsimp only at j2; omega⟩ (by omega)
  refine ⟨ν, ?_, r2⟩
  simp only [fX9_firstConnecting, p1, Option.bind_some, hp0, a1, b1, r1]
  rcases r3 with ⟨rfl, e⟩ | rfl
  · rw [e]
    rfl
  · rfl
theorem m_connecting (hn : 5000 ≤ n) (h : SM μ N m c t) (hV : Vd N c) (hV' : Vd N t) (hm : 0 ≤ m ∧ m ≤ 2) : ∃ μ', fX10_connecting n μ = some (cnC N m c, μ') ∧ SM μ' N m c t ∧ Fr [79, 84, 89] μ μ' := by
  have hN := hV.N
  have hS := lsz_le (p := m) hV
  have hS0 := lsz_nn m c
  have hw := cwe_r (c := c) hN
  obtain ⟨μ0, p1, p2⟩ := m_partsWithEdges hn h hV
  have h0 : SM μ0 N m c t := h.kp (p2 79 (by decide))
  obtain ⟨μ1, a1, a2, a3, a4⟩ := m_laysList (p := m) hn h0 hV hV' hm
  have f1 : Fr [79, 84, 89] μ μ1 := (p2.wk (by simp)).tr (a4.wk (by simp))
  obtain ⟨b, r1, ν, r2, r4, r3⟩ := lp_inv (f := fun x : Int × qMu => bX10_connecting_18 n (cwe N c) (lsz m c) x.1 x.2) (fun k x => (x.1 = lsz m c - (k : Int) ∧ 0 ≤ x.1) ∧ (SM x.2 N m c t ∧ Lst m c x.2 89 4096 ∧ Fr [79, 84, 89] μ x.2) ∧ ∀ j, 0 ≤ j → j < x.1 → ¬ cnP N m c j) (fun y => ∃ ν, Fr [79, 84, 89] μ ν ∧ SM ν N m c t ∧ (y = .inl ν ∧ cnC N m c = -1 ∨ y = .inr (cnC N m c, ν))) (by
    rintro k ⟨i, ξ⟩ ⟨⟨h4, h5⟩, ⟨h6, h8, h9⟩, h10⟩
    dsimp only at h4 h5 h6 h8 h9 h10
    by_cases hi : i < lsz m c
    · obtain ⟨q1, ξ1, q2, q3, q4, q6⟩ := m_probe h6 h8 hV hV' ⟨h5, hi⟩
      obtain ⟨k1, k2, k3⟩ := lkc_ok h5 hi
      have hV2 := (swk_ok hV k2).1
      obtain ⟨ξ2, s1, s2⟩ := m_partsWithEdges hn q3 hV2
      have hw2 := cwe_r (c := swk c (lkc m c i)) hN
      obtain ⟨t1, ξ3, t2, t3, t4, t5⟩ := q6 ξ2 (q3.kp (s2 79 (by decide))) (s2 89 (by decide))
      have fr : Fr [79, 84] ξ ξ3 := ((q4.wk (by simp)).tr (s2.wk (by simp))).tr (t4.wk (by simp))
      have fr9 : Fr [79, 84, 89] μ ξ3 := h9.tr (fr.wk (by simp))
      by_cases hc : cwe N (swk c (lkc m c i)) < cwe N c
      · left
        refine ⟨.inr (cnC N m c, ξ3), ?_, ξ3, fr9, t3, Or.inr rfl⟩
        rw [cnC_i ⟨h5, hi⟩ hc h10]
        simp (disch := omega) only [bX10_connecting_18, Option.bind_some, wr_id, if_pos, if_neg, q1, q2, s1, t1, t2, t5]
      · right
        refine ⟨k - 1, (i + 1, ξ3), ?_, by omega, ⟨by dsimp only; omega, by dsimp only; omega⟩, ⟨t3, ?_, fr9⟩, fun j j1 j2 => ?_⟩
        · simp (disch := omega) only [bX10_connecting_18, Option.bind_some, wr_id, if_pos, if_neg, q1, q2, s1, t1, t2, t5, ite_true]
        · intro j j1 j2 hj
          dsimp only
          rw [rd_cg (fr 89 (by decide))]
          exact h8 j j1 j2 hj
        · dsimp only at j2
          by_cases e : j = i
          · rw [e]
            exact hc
          · exact h10 j j1 (by omega)
    · left
      have hiS : i = lsz m c := by omega
      refine ⟨.inl ξ, ?_, ξ, h9, h6, Or.inl ⟨rfl, cnC_n (fun j j1 j2 => h10 j j1 (by omega))⟩⟩
      simp (disch := omega) only [bX10_connecting_18, Option.bind_some, wr_id, if_neg]) n (lsz m c).toNat (0, μ1) ⟨⟨by dsimp only; omega, Int.le_refl _⟩, ⟨a2, a3, f1⟩, fun j j1 j2 => by dsimp only at j2; omega⟩ (by omega)
  refine ⟨ν, ?_, r4, r2⟩
  simp (disch := omega) only [fX10_connecting, p1, Option.bind_some, qLd_in, h0.2.1, a1, r1]
  rcases r3 with ⟨rfl, e⟩ | rfl
  · rw [e]
    rfl
  · rfl
/-- the loop of connect: from the time that the game is remembered -/
theorem x_connects (hn : 5000 ≤ n) (h : GY μ 11 N c) (hV : Vd N c) (hp : rd μ 0 11 = p) (hpr : 0 ≤ p ∧ p ≤ 2) : ∃ μ1 μ2, lp (fun x : Int × qMu => bX9_connect_6 n x.1 x.2) n (0, μ) = some μ1 ∧ fX9_partsWithEdges n 11 μ1 = some (cwe N (itG (cnC N p) 8 c), μ2) ∧ GY μ2 11 N (itG (cnC N p) 8 c) ∧ Fr [11, 12, 15, 16, 19, 20, 26, 27] μ μ2 := by
  have hN := hV.N
  have hC := cn_Ch (p := p) hN
  obtain ⟨b, r1, r2, r3⟩ := lp_inv (f := fun x : Int × qMu => bX9_connect_6 n x.1 x.2) (fun k x => (x.1 = 8 - (k : Int) ∧ 0 ≤ x.1) ∧ Fr [11, 12, 15, 16, 19, 20, 26, 27] μ x.2 ∧ ∃ c1, GY x.2 11 N c1 ∧ Vd N c1 ∧ itG (cnC N p) k c1 = itG (cnC N p) 8 c) (fun y => GY y 11 N (itG (cnC N p) 8 c) ∧ Fr [11, 12, 15, 16, 19, 20, 26, 27] μ y) (by
    rintro k ⟨i, ξ⟩ ⟨⟨h4, h5⟩, h6, c1, h7, h8, h9⟩
    dsimp only at h4 h5 h6 h7
    by_cases hi : i < 8
    · obtain ⟨ξ1, q1, q2⟩ := x_firstConnecting hn h7 h8 (by rw [rd_cg (h6 0 (by decide))]; exact hp) hpr
      have h7' : GY ξ1 11 N c1 := h7.kp (q2 11 (by decide)) (q2 12 (by decide))
      have f1 : Fr [11, 12, 15, 16, 19, 20, 26, 27] μ ξ1 := h6.tr (q2.wk (by simp))
      rcases (hC c1 h8).2 with h' | ⟨k1, k2, k3⟩
      · left
        rw [itG_e h'] at h9
        refine ⟨ξ1, ?_, h9 ▸ h7', f1⟩
        rw [h'] at q1
        simp (disch := omega) only [bX9_connect_6, wr_id, if_pos, q1, Option.bind_some, ite_true]
      · right
        obtain ⟨ξ2, s1, s2, s3⟩ := x_exk h7' h8 k1 k2
        obtain ⟨k', rfl⟩ : ∃ k', k = k' + 1 := ⟨k - 1, by omega⟩
        rw [itG_s (by omega)] at h9
        refine ⟨k', (i + 1, ξ2), ?_, by omega, ⟨by dsimp only; omega, by dsimp only; omega⟩, f1.tr (s3.wk (by simp)), _, s2, (swk_ok h8 k2).1, h9⟩
        simp (disch := omega) only [bX9_connect_6, wr_id, if_pos, if_neg, q1, s1, Option.bind_some]
    · left
      have hk : k = 0 := by omega
      subst hk
      have h9' : c1 = itG (cnC N p) 8 c := h9
      refine ⟨ξ, ?_, h9' ▸ h7, h6⟩
      simp (disch := omega) only [bX9_connect_6, wr_id, if_neg]) n 8 (0, μ) ⟨⟨by dsimp only; omega, Int.le_refl _⟩, Fr.rf _ _, c, h, hV, rfl⟩ (by omega)
  obtain ⟨μ2, p1, p2⟩ := x_partsWithEdges hn r2.1 (itG_ok hC 8 c hV).1 (g := 11) (by decide)
  exact ⟨b, μ2, r1, p1, r2.kp (p2 11 (by decide)) (p2 12 (by decide)), r3.tr (p2.wk (by simp))⟩
theorem m_connects (hn : 5000 ≤ n) (h : SM μ N m c t) (hV : Vd N c) (hV' : Vd N t) (hm : 0 ≤ m ∧ m ≤ 2) : ∃ μ0 μ1 μ2, fX10_connecting n μ = some (cnC N m c, μ0) ∧ lp (fun x : Int × qMu => bX10_connect_14 n x.1 x.2) n (cnC N m c, μ0) = some μ1 ∧ fX10_partsWithEdges n μ1 = some (cwe N (itG (cnC N m) 8 c), μ2) ∧ SM μ2 N m (itG (cnC N m) 8 c) t ∧ Fr [79, 84, 89] μ μ2 := by
  have hN := hV.N
  have hC := cn_Ch (p := m) hN
  obtain ⟨μ0, z1, z2, z3⟩ := m_connecting hn h hV hV' hm
  obtain ⟨b, r1, r2, r3⟩ := lp_inv (f := fun x : Int × qMu => bX10_connect_14 n x.1 x.2) (fun k x => Fr [79, 84, 89] μ x.2 ∧ ∃ c1, x.1 = cnC N m c1 ∧ SM x.2 N m c1 t ∧ Vd N c1 ∧ cwe N c1 ≤ (k : Int) ∧ itG (cnC N m) k c1 = itG (cnC N m) 8 c) (fun y => SM y N m (itG (cnC N m) 8 c) t ∧ Fr [79, 84, 89] μ y) (by
    rintro k ⟨i, ξ⟩ ⟨h6, c1, h5, h7, h8, h4, h9⟩
    dsimp only at h4 h5 h6 h7
    subst h5
    rcases (hC c1 h8).2 with h' | ⟨k1, k2, k3⟩
    · left
      rw [itG_e h'] at h9
      refine ⟨ξ, ?_, h9 ▸ h7, h6⟩
      rw [h']
      simp (disch := omega) only [bX10_connect_14, wr_id, if_pos, ite_true]
    · right
      obtain ⟨ξ2, s1, s2, s3⟩ := m_swk h7 h8 hV' k1 k2
      have hV2 := (swk_ok h8 k2).1
      have hc0 := cwe_r (c := swk c1 (cnC N m c1)) hN
      obtain ⟨k', rfl⟩ : ∃ k', k = k' + 1 := ⟨k - 1, by omega⟩
      rw [itG_s (by omega)] at h9
      obtain ⟨ξ3, t1, t2, t3⟩ := m_connecting hn s2 hV2 hV' hm
      refine ⟨k', (cnC N m (swk c1 (cnC N m c1)), ξ3), ?_, by omega, h6.tr ((s3.wk (by simp)).tr t3), swk c1 (cnC N m c1), rfl, t2, hV2, by omega, h9⟩
      simp (disch := omega) only [bX10_connect_14, wr_id, if_neg, s1, t1, Option.bind_some]) n 8 (cnC N m c, μ0) ⟨z3, c, rfl, z2, hV, (cwe_r hN).2, rfl⟩ (by omega)
  obtain ⟨μ2, p1, p2⟩ := m_partsWithEdges hn r2 (itG_ok hC 8 c hV).1
  exact ⟨μ0, b, μ2, z1, r1, p1, r2.kp (p2 79 (by decide)), r3.tr (p2.wk (by simp))⟩
/-! simplify -/
noncomputable def smF (c : Int → Int → Int) (i : Int) : Int := dfc (swk c (lkc 0 c i))
noncomputable def smS (c : Int → Int → Int) : Int := ati (smF c) (dfc c) (lsz 0 c)
noncomputable def smC (c : Int → Int → Int) : Int := if smS c = -1 then -1 else lkc 0 c (smS c)
theorem smS_ok (c : Int → Int → Int) : AT (smF c) (dfc c) (lsz 0 c) (smS c) := ati_ok (lsz_nn 0 c)
theorem sm_Ch : Ch N 0 smC dfc := by
  intro c hV
  refine ⟨(dfc_r hV).1, ?_⟩
  rcases smS_ok c with ⟨h, -⟩ | ⟨h1, h2⟩
  · left
    unfold smC
    rw [if_pos h]
  · right
    have e : smC c = lkc 0 c (smS c) := by
      unfold smC
      rw [if_neg (by have := h1.1.1; omega)]
    obtain ⟨k1, k2, k3⟩ := lkc_ok h1.1.1 h1.1.2
    rw [e]
    exact ⟨k1, k2, h2⟩
/-- the code and the value that go with an index -/
noncomputable def smc (c : Int → Int → Int) (r : Int) : Int := if r = -1 then -1 else lkc 0 c r
noncomputable def smv (c : Int → Int → Int) (r : Int) : Int := if r = -1 then dfc c else smF c r
theorem smv_r (hV : Vd N c) {i r : Int} (h : AT (smF c) (dfc c) i r) (hi : i ≤ lsz 0 c) : 0 ≤ smv c r ∧ smv c r ≤ 16 := by
  unfold smv
  split
  · exact dfc_r hV
  · rcases h with ⟨h, -⟩ | ⟨h, -⟩
    · omega
    · obtain ⟨k1, k2, k3⟩ := lkc_ok (p := 0) (c := c) h.1.1 (by have := h.1.2; omega)
      exact dfc_r (swk_ok hV k2).1
theorem sm_step {i r : Int} (hi : 0 ≤ i) (h : AT (smF c) (dfc c) i r) : ∃ r', AT (smF c) (dfc c) (i + 1) r' ∧ (smF c i < smv c r → r' = i) ∧ (¬ smF c i < smv c r → r' = r) := by
  refine ⟨_, AT.step hi h, fun q => ?_, fun q => ?_⟩
  · exact if_pos q
  · exact if_neg q
theorem x_mostSimplifying (hn : 5000 ≤ n) (h : GY μ 11 N c) (hV : Vd N c) : ∃ μ', fX9_mostSimplifying n μ = some (smC c, μ') ∧ Fr [15, 16, 26, 27] μ μ' := by
  have hN := hV.N
  have hS := lsz_le (p := 0) hV
  have hS0 := lsz_nn 0 c
  have hE0 := hV.e0
  have hE1 := hV.2.2.2.2
  obtain ⟨μ1, a1, a2, a3, a4⟩ := x_fill (p := 0) hn h.1 hV (by omega) (by decide)
  obtain ⟨μ2, b1, b2, b3⟩ := x_become (g := 15) (o := 11) hn (h.kp (a4 11 (by decide)) (a4 12 (by decide))) hV.bd (by decide) (by decide) (by decide) (by omega) (by omega)
  have f2 : Fr [15, 16, 26, 27] μ μ2 := (a4.wk (by simp)).tr (b3.wk (by simp))
  obtain ⟨b, r1, r2, r3⟩ := lp_inv (f := fun x : Int × Int × Int × qMu => bX9_mostSimplifying_35 n x.1 x.2.1 x.2.2.1 x.2.2.2) (fun k x => (x.2.2.1 = lsz 0 c - (k : Int) ∧ 0 ≤ x.2.2.1) ∧ (GY x.2.2.2 15 N c ∧ rd x.2.2.2 26 1 = lsz 0 c ∧ Lst 0 c x.2.2.2 27 4096 ∧ Fr [15, 16, 26, 27] μ x.2.2.2) ∧ ∃ r, AT (smF c) (dfc c) x.2.2.1 r ∧ x.1 = smc c r ∧ x.2.1 = smv c r) (fun y => Fr [15, 16, 26, 27] μ y.2 ∧ y.1 = smC c) (by
    rintro k ⟨z1, z2, i, ξ⟩ ⟨⟨h4, h5⟩, ⟨h6, h7, h8, h9⟩, r, h10, h11, h12⟩
    dsimp only at h4 h5 h6 h7 h8 h9 h10 h11 h12
    subst h11 h12
    by_cases hi : i < lsz 0 c
    · right
      obtain ⟨p1, ξ1, p2, p3, p4, kb, p5, p6⟩ := x_probe h6 h8 hV ⟨h5, hi⟩
      obtain ⟨q1, ξ2, q2, q3, q4, q5⟩ := p6 ξ1 rfl rfl rfl
      obtain ⟨k1, k2, k3⟩ := lkc_ok h5 hi
      have hV2 := (swk_ok hV k2).1
      have fr : Fr [15, 16] ξ ξ2 := p4.tr q4
      have es : fX1_defectCount n 15 ξ1 = some (smF c i) := x_defectCount hn p3.1 hV2
      have hr : 0 ≤ smF c i ∧ smF c i ≤ 16 := dfc_r hV2
      have hz := smv_r hV h10 (by omega)
      obtain ⟨r', g1, g2, g3⟩ := sm_step h5 h10
      have e0 : fX7_length ξ = some (lsz 0 c) := by
        rw [← h7]
        rfl
      have k7 : rd ξ2 26 1 = lsz 0 c := by
        rw [rd_cg (fr 26 (by decide))]
        exact h7
      have k8 : Lst 0 c ξ2 27 4096 := fun j j1 j2 hj => by
        rw [rd_cg (fr 27 (by decide))]
        exact h8 j j1 j2 hj
      refine ⟨k - 1, (smc c r', smv c r', i + 1, ξ2), ?_, by omega, ⟨by dsimp only; omega, by dsimp only; omega⟩, ⟨q3, k7, k8, h9.tr (fr.wk (by simp))⟩, r', g1, rfl, rfl⟩
      by_cases q : smF c i < smv c r
      · rw [g2 q]
        have e1 : smc c i = lkc 0 c i := if_neg (by omega)
        have e2 : smv c i = smF c i := if_neg (by omega)
        rw [e1, e2]
        show bX9_mostSimplifying_35 n (smc c r) (smv c r) i ξ = _
        unfold bX9_mostSimplifying_35
        rw [e0, obs, wr_id (by omega) (by omega), wr_id (by omega) (by omega), if_pos hi, p1, obs, p2, obs, es, obs, q1, obs, p5, obs, q2, obs, wr_id (by omega) (by omega), wr_id (by omega) (by omega), if_pos q, q5, obs, obs]
      · rw [g3 q]
        show bX9_mostSimplifying_35 n (smc c r) (smv c r) i ξ = _
        unfold bX9_mostSimplifying_35
        rw [e0, obs, wr_id (by omega) (by omega), wr_id (by omega) (by omega), if_pos hi, p1, obs, p2, obs, es, obs, q1, obs, p5, obs, q2, obs, wr_id (by omega) (by omega), wr_id (by omega) (by omega), if_neg q, obs]
    · left
      have hiS : i = lsz 0 c := by omega
      have e : r = smS c := AT.uniq (hiS ▸ h10) (smS_ok c)
      refine ⟨(smc c r, ξ), ?_, h9, ?_⟩
      · simp (disch := omega) only [bX9_mostSimplifying_35, fX7_length, h7, Option.bind_some, wr_id, if_neg]
      · rw [e]
        rfl) n (lsz 0 c).toNat (-1, dfc c, 0, μ2) ⟨⟨by dsimp only; omega, Int.le_refl _⟩, ⟨b2, by dsimp only; rw [rd_cg (b3 26 (by decide))]; exact a2, fun j j1 j2 hj => by dsimp only; rw [rd_cg (b3 27 (by decide))]; exact a3 j j1 j2 hj, f2⟩, -1, Or.inl ⟨rfl, fun j j1 j2 => by dsimp only at j2; omega⟩, rfl, rfl⟩ (by omega)
  refine ⟨b.2, ?_, r2⟩
  simp only [fX9_mostSimplifying, x_defectCount hn h.1 hV, a1, Option.bind_some, b1, r1, r3]
theorem m_simplifying (hn : 5000 ≤ n) (h : SM μ N m c t) (hV : Vd N c) (hV' : Vd N t) : ∃ μ', fX10_simplifying n μ = some (smC c, μ') ∧ SM μ' N m c t ∧ Fr [79, 89] μ μ' := by
  have hN := hV.N
  have hS := lsz_le (p := 0) hV
  have hS0 := lsz_nn 0 c
  obtain ⟨μ1, a1, a2, a3, a4⟩ := m_laysList (p := 0) hn h hV hV' (by omega)
  obtain ⟨b, r1, r2, r4, r3⟩ := lp_inv (f := fun x : Int × Int × Int × qMu => bX10_simplifying_16 n (lsz 0 c) x.1 x.2.1 x.2.2.1 x.2.2.2) (fun k x => (x.2.2.1 = lsz 0 c - (k : Int) ∧ 0 ≤ x.2.2.1) ∧ (SM x.2.2.2 N m c t ∧ Lst 0 c x.2.2.2 89 4096 ∧ Fr [79, 89] μ x.2.2.2) ∧ ∃ r, AT (smF c) (dfc c) x.2.2.1 r ∧ x.2.1 = smc c r ∧ x.1 = smv c r) (fun y => Fr [79, 89] μ y.2 ∧ SM y.2 N m c t ∧ y.1 = smC c) (by
    rintro k ⟨z2, z1, i, ξ⟩ ⟨⟨h4, h5⟩, ⟨h6, h8, h9⟩, r, h10, h11, h12⟩
    dsimp only at h4 h5 h6 h8 h9 h10 h11 h12
    subst h11 h12
    by_cases hi : i < lsz 0 c
    · right
      obtain ⟨p1, ξ1, p2, p3, p4, p6⟩ := m_probe h6 h8 hV hV' ⟨h5, hi⟩
      obtain ⟨q1, ξ2, q2, q3, q4, q5⟩ := p6 ξ1 p3 rfl
      obtain ⟨k1, k2, k3⟩ := lkc_ok h5 hi
      have hV2 := (swk_ok hV k2).1
      have fr : Fr [79] ξ ξ2 := p4.tr q4
      have es : fX10_defectsNow n ξ1 = some (smF c i) := m_defectsNow hn p3.2.2.1 hV2
      have hr : 0 ≤ smF c i ∧ smF c i ≤ 16 := dfc_r hV2
      have hz := smv_r hV h10 (by omega)
      obtain ⟨r', g1, g2, g3⟩ := sm_step h5 h10
      have k8 : Lst 0 c ξ2 89 4096 := fun j j1 j2 hj => by
        rw [rd_cg (fr 89 (by decide))]
        exact h8 j j1 j2 hj
      refine ⟨k - 1, (smv c r', smc c r', i + 1, ξ2), ?_, by omega, ⟨by dsimp only; omega, by dsimp only; omega⟩, ⟨q3, k8, h9.tr (fr.wk (by simp))⟩, r', g1, rfl, rfl⟩
      by_cases q : smF c i < smv c r
      · rw [g2 q]
        have e1 : smc c i = lkc 0 c i := if_neg (by omega)
        have e2 : smv c i = smF c i := if_neg (by omega)
        rw [e1, e2]
        simp (disch := omega) only [bX10_simplifying_16, Option.bind_some, wr_id, if_pos, p1, p2, es, q1, q2, q5]
      · rw [g3 q]
        simp (disch := omega) only [bX10_simplifying_16, Option.bind_some, wr_id, if_pos, if_neg, p1, p2, es, q1, q2]
    · left
      have hiS : i = lsz 0 c := by omega
      have e : r = smS c := AT.uniq (hiS ▸ h10) (smS_ok c)
      refine ⟨(smc c r, ξ), ?_, h9, h6, ?_⟩
      · simp (disch := omega) only [bX10_simplifying_16, Option.bind_some, wr_id, if_neg]
      · rw [e]
        rfl) n (lsz 0 c).toNat (dfc c, -1, 0, μ1) ⟨⟨by dsimp only; omega, Int.le_refl _⟩, ⟨a2, a3, a4⟩, -1, Or.inl ⟨rfl, fun j j1 j2 => by dsimp only at j2; omega⟩, rfl, rfl⟩ (by omega)
  refine ⟨b.2, ?_, r4, r2⟩
  simp only [fX10_simplifying, m_defectsNow hn h.2.2.1 hV, a1, Option.bind_some, r1, r3]
theorem x_simplifies (hn : 5000 ≤ n) (h : GY μ 11 N c) (hV : Vd N c) : ∃ μ1, lp (fun x : Int × qMu => bX9_simplify_6 n x.1 x.2) n (0, μ) = some μ1 ∧ fX1_defectCount n 11 μ1 = some (dfc (itG smC 16 c)) ∧ GY μ1 11 N (itG smC 16 c) ∧ Fr [11, 12, 15, 16, 26, 27] μ μ1 := by
  have hN := hV.N
  have hC := sm_Ch (N := N)
  obtain ⟨b, r1, r2, r3⟩ := lp_inv (f := fun x : Int × qMu => bX9_simplify_6 n x.1 x.2) (fun k x => (x.1 = 16 - (k : Int) ∧ 0 ≤ x.1) ∧ Fr [11, 12, 15, 16, 26, 27] μ x.2 ∧ ∃ c1, GY x.2 11 N c1 ∧ Vd N c1 ∧ itG smC k c1 = itG smC 16 c) (fun y => GY y 11 N (itG smC 16 c) ∧ Fr [11, 12, 15, 16, 26, 27] μ y) (by
    rintro k ⟨i, ξ⟩ ⟨⟨h4, h5⟩, h6, c1, h7, h8, h9⟩
    dsimp only at h4 h5 h6 h7
    by_cases hi : i < 16
    · obtain ⟨ξ1, q1, q2⟩ := x_mostSimplifying hn h7 h8
      have h7' : GY ξ1 11 N c1 := h7.kp (q2 11 (by decide)) (q2 12 (by decide))
      have f1 : Fr [11, 12, 15, 16, 26, 27] μ ξ1 := h6.tr (q2.wk (by simp))
      rcases (hC c1 h8).2 with h' | ⟨k1, k2, k3⟩
      · left
        rw [itG_e h'] at h9
        refine ⟨ξ1, ?_, h9 ▸ h7', f1⟩
        rw [h'] at q1
        simp (disch := omega) only [bX9_simplify_6, wr_id, if_pos, q1, Option.bind_some, ite_true]
      · right
        obtain ⟨ξ2, s1, s2, s3⟩ := x_exk h7' h8 k1 k2
        obtain ⟨k', rfl⟩ : ∃ k', k = k' + 1 := ⟨k - 1, by omega⟩
        rw [itG_s (by omega)] at h9
        refine ⟨k', (i + 1, ξ2), ?_, by omega, ⟨by dsimp only; omega, by dsimp only; omega⟩, f1.tr (s3.wk (by simp)), _, s2, (swk_ok h8 k2).1, h9⟩
        simp (disch := omega) only [bX9_simplify_6, wr_id, if_pos, if_neg, q1, s1, Option.bind_some]
    · left
      have hk : k = 0 := by omega
      subst hk
      have h9' : c1 = itG smC 16 c := h9
      refine ⟨ξ, ?_, h9' ▸ h7, h6⟩
      simp (disch := omega) only [bX9_simplify_6, wr_id, if_neg]) n 16 (0, μ) ⟨⟨by dsimp only; omega, Int.le_refl _⟩, Fr.rf _ _, c, h, hV, rfl⟩ (by omega)
  exact ⟨b, r1, x_defectCount hn r2.1 (itG_ok hC 16 c hV).1, r2, r3⟩
theorem m_simplifies (hn : 5000 ≤ n) (h : SM μ N m c t) (hV : Vd N c) (hV' : Vd N t) : ∃ μ0 μ1, fX10_simplifying n μ = some (smC c, μ0) ∧ lp (fun x : Int × qMu => bX10_simplify_14 n x.1 x.2) n (smC c, μ0) = some μ1 ∧ fX10_defectsNow n μ1 = some (dfc (itG smC 16 c)) ∧ SM μ1 N m (itG smC 16 c) t ∧ Fr [79, 89] μ μ1 := by
  have hN := hV.N
  have hC := sm_Ch (N := N)
  obtain ⟨μ0, z1, z2, z3⟩ := m_simplifying hn h hV hV'
  obtain ⟨b, r1, r2, r3⟩ := lp_inv (f := fun x : Int × qMu => bX10_simplify_14 n x.1 x.2) (fun k x => Fr [79, 89] μ x.2 ∧ ∃ c1, x.1 = smC c1 ∧ SM x.2 N m c1 t ∧ Vd N c1 ∧ dfc c1 ≤ (k : Int) ∧ itG smC k c1 = itG smC 16 c) (fun y => SM y N m (itG smC 16 c) t ∧ Fr [79, 89] μ y) (by
    rintro k ⟨i, ξ⟩ ⟨h6, c1, h5, h7, h8, h4, h9⟩
    dsimp only at h4 h5 h6 h7
    subst h5
    rcases (hC c1 h8).2 with h' | ⟨k1, k2, k3⟩
    · left
      rw [itG_e h'] at h9
      refine ⟨ξ, ?_, h9 ▸ h7, h6⟩
      rw [h']
      simp (disch := omega) only [bX10_simplify_14, wr_id, if_pos, ite_true]
    · right
      obtain ⟨ξ2, s1, s2, s3⟩ := m_swk h7 h8 hV' k1 k2
      have hV2 := (swk_ok h8 k2).1
      have hc0 := dfc_r hV2
      obtain ⟨k', rfl⟩ : ∃ k', k = k' + 1 := ⟨k - 1, by omega⟩
      rw [itG_s (by omega)] at h9
      obtain ⟨ξ3, t1, t2, t3⟩ := m_simplifying hn s2 hV2 hV'
      refine ⟨k', (smC (swk c1 (smC c1)), ξ3), ?_, by omega, h6.tr ((s3.wk (by simp)).tr t3), swk c1 (smC c1), rfl, t2, hV2, by omega, h9⟩
      simp (disch := omega) only [bX10_simplify_14, wr_id, if_neg, s1, t1, Option.bind_some]) n 16 (smC c, μ0) ⟨z3, c, rfl, z2, hV, (dfc_r hV).2, rfl⟩ (by omega)
  exact ⟨μ0, b, z1, r1, m_defectsNow hn r2.2.2.1 (itG_ok hC 16 c hV).1, r2, r3⟩
end CON
