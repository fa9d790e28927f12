/-! LOOPS OVER THE LIST -/
/-- the first of the least -/
def AM (f : Int → Int) (S r : Int) : Prop := (0 ≤ r ∧ r < S) ∧ (∀ i, 0 ≤ i → i < r → f r < f i) ∧ ∀ i, r ≤ i → i < S → f r ≤ f i
theorem AM.uniq {f : Int → Int} {S r r' : Int} (h : AM f S r) (h' : AM f S r') : r = r' := by
  by_cases q1 : r < r'
  · have a1 := h'.2.1 r h.1.1 q1
    have a2 := h.2.2 r' (by omega) h'.1.2
    omega
  · by_cases q2 : r' < r
    · have a1 := h.2.1 r' h'.1.1 q2
      have a2 := h'.2.2 r (by omega) h.1.2
      omega
    · omega
/-- the first one of a kind, or -1 -/
def FS (P : Int → Prop) (S r : Int) : Prop := (r = -1 ∧ ∀ i, 0 ≤ i → i < S → ¬ P i) ∨ ((0 ≤ r ∧ r < S) ∧ P r ∧ ∀ i, 0 ≤ i → i < r → ¬ P i)
theorem FS.uniq {P : Int → Prop} {S r r' : Int} (h : FS P S r) (h' : FS P S r') : r = r' := by
  rcases h with ⟨rfl, h⟩ | ⟨h1, h2, h3⟩
  · rcases h' with ⟨rfl, h'⟩ | ⟨h4, h5, h6⟩
    · rfl
    · exact absurd h5 (h r' h4.1 h4.2)
  · rcases h' with ⟨rfl, h'⟩ | ⟨h4, h5, h6⟩
    · exact absurd h2 (h' r h1.1 h1.2)
    · by_cases q1 : r < r'
      · exact absurd h2 (h6 r h1.1 q1)
      · by_cases q2 : r' < r
        · exact absurd h5 (h3 r' h4.1 q2)
        · omega
theorem FS_ex (P : Int → Prop) : ∀ S : Nat, ∃ r, FS P (S : Int) r
  | 0 => ⟨-1, Or.inl ⟨rfl, fun i h1 h2 => by omega⟩⟩
  | S + 1 => by
    obtain ⟨r, h⟩ := FS_ex P S
    rcases h with ⟨rfl, h⟩ | ⟨h1, h2, h3⟩
    · by_cases q : P (S : Int)
      · exact ⟨S, Or.inr ⟨by omega, q, fun i i1 i2 => h i i1 i2⟩⟩
      · exact ⟨-1, Or.inl ⟨rfl, fun i i1 i2 => by
          by_cases e : i = (S : Int)
          · rw [e]; exact q
          · exact h i i1 (by omega)⟩⟩
    · exact ⟨r, Or.inr ⟨by omega, h2, h3⟩⟩
noncomputable def fsi (P : Int → Prop) (S : Int) : Int := Classical.epsilon (fun r => FS P S r)
theorem fsi_ok {P : Int → Prop} {S : Int} (hS : 0 ≤ S) : FS P S (fsi P S) := by
  obtain ⟨r, h⟩ := FS_ex P S.toNat
  rw [show ((S.toNat : Nat) : Int) = S by omega] at h
  exact Classical.epsilon_spec ⟨r, h⟩
/-- the first of the least, if less than B; or -1 -/
def AT (f : Int → Int) (B S r : Int) : Prop := (r = -1 ∧ ∀ i, 0 ≤ i → i < S → B ≤ f i) ∨ (AM f S r ∧ f r < B)
theorem AT.uniq {f : Int → Int} {B S r r' : Int} (h : AT f B S r) (h' : AT f B S r') : r = r' := by
  rcases h with ⟨rfl, h⟩ | ⟨h1, h2⟩
  · rcases h' with ⟨rfl, h'⟩ | ⟨h4, h5⟩
    · rfl
    · have := h r' h4.1.1 h4.1.2
      omega
  · rcases h' with ⟨rfl, h'⟩ | ⟨h4, h5⟩
    · have := h' r h1.1.1 h1.1.2
      omega
    · exact h1.uniq h4
/-- one more looked at -/
theorem AT.step {f : Int → Int} {B i r : Int} (hi : 0 ≤ i) (h : AT f B i r) : AT f B (i + 1) (if f i < (if r = -1 then B else f r) then i else r) := by
  rcases h with ⟨rfl, h⟩ | ⟨⟨h1, h2, h3⟩, h4⟩
  · rw [if_pos rfl]
    by_cases q : f i < B
    · rw [if_pos q]
      exact Or.inr ⟨⟨by omega, fun j j1 j2 => by have := h j j1 j2; omega, fun j j1 j2 => by rw [show j = i by omega]; exact Int.le_refl _⟩, q⟩
    · rw [if_neg q]
      exact Or.inl ⟨rfl, fun j j1 j2 => by
        by_cases e : j = i
        · rw [e]; omega
        · exact h j j1 (by omega)⟩
  · rw [if_neg (show ¬ r = -1 by omega)]
    by_cases q : f i < f r
    · rw [if_pos q]
      exact Or.inr ⟨⟨by omega, fun j j1 j2 => by
        by_cases e : j < r
        · have := h2 j j1 e; omega
        · have := h3 j (by omega) j2; omega, fun j j1 j2 => by rw [show j = i by omega]; exact Int.le_refl _⟩, by omega⟩
    · rw [if_neg q]
      exact Or.inr ⟨⟨by omega, h2, fun j j1 j2 => by
        by_cases e : j = i
        · rw [e]; omega
        · exact h3 j j1 (by omega)⟩, h4⟩
theorem AT_ex (f : Int → Int) (B : Int) : ∀ S : Nat, ∃ r, AT f B (S : Int) r
  | 0 => ⟨-1, Or.inl ⟨rfl, fun i h1 h2 => by omega⟩⟩
  | S + 1 => by
    obtain ⟨r, h⟩ := AT_ex f B S
    exact ⟨_, AT.step (by omega) h⟩
noncomputable def ati (f : Int → Int) (B S : Int) : Int := Classical.epsilon (fun r => AT f B S r)
theorem ati_ok {f : Int → Int} {B S : Int} (hS : 0 ≤ S) : AT f B S (ati f B S) := by
  obtain ⟨r, h⟩ := AT_ex f B S.toNat
  rw [show ((S.toNat : Nat) : Int) = S by omega] at h
  exact Classical.epsilon_spec ⟨r, h⟩
theorem lsz_nn (p : Int) (c : Int → Int → Int) : 0 ≤ lsz p c := by
  rw [lsz_e]
  exact lcn_nn p c 4096
section PRB
variable {μ ν : qMu} {n : Nat} {N m p : Int} {c t : Int → Int → Int}
theorem x_probe (h : GY ν 15 N c) (hL : Lst p c ν 27 4096) (hV : Vd N c) {i : Int} (hi : 0 ≤ i ∧ i < lsz p c) : fX7_codeAt i ν = some (lkc p c i) ∧ ∃ ν1, fX1_exchangeEdges 15 (lkc p c i) ν = some ν1 ∧ GY ν1 15 N (swk c (lkc p c i)) ∧ Fr [15, 16] ν ν1 ∧ ∃ kb, (∀ ξ, fX0_backOf (lkc p c i) ξ = some kb) ∧ ∀ ξ, ξ 15 = ν1 15 → ξ 16 = ν1 16 → ξ 27 = ν1 27 → fX7_codeAt i ξ = some (lkc p c i) ∧ ∃ ν2, fX1_exchangeEdges 15 kb ξ = some ν2 ∧ GY ν2 15 N c ∧ Fr [15, 16] ξ ν2 ∧ fX7_codeAt i ν2 = some (lkc p c i) := by
  obtain ⟨k1, k2, k3⟩ := lkc_ok hi.1 hi.2
  have hS := lsz_le (p := p) hV
  have ecode : ∀ ξ : qMu, ξ 27 = ν 27 → fX7_codeAt i ξ = some (lkc p c i) := fun ξ hξ => by
    simp (disch := omega) only [fX7_codeAt, qLd_in, Option.bind_some]
    rw [rd_cg hξ, hL.at hi.1 hi.2]
  obtain ⟨ν1, a1, a2, a3⟩ := x_exk h hV k1 k2
  obtain ⟨kb, ν9, b1, b2, b3, b4⟩ := x_exbk a2 hV k1 k2
  refine ⟨ecode ν rfl, ν1, a1, a2, a3, kb, b1, fun ξ h15 h16 h27 => ?_⟩
  obtain ⟨kb', ν2, d1, d2, d3, d4⟩ := x_exbk (a2.kp h15 h16) hV k1 k2
  have : kb' = kb := by
    have e1 := d1 ξ
    rw [b1 ξ] at e1
    exact (Option.some.inj e1).symm
  subst this
  have e27 : ξ 27 = ν 27 := h27.trans (a3 27 (by decide))
  exact ⟨ecode ξ e27, ν2, d2, d3, d4, ecode ν2 ((d4 27 (by decide)).trans e27)⟩
theorem m_probe (h : SM ν N m c t) (hL : Lst p c ν 89 4096) (hV : Vd N c) (hV' : Vd N t) {i : Int} (hi : 0 ≤ i ∧ i < lsz p c) : qLd ν 89 4096 i = some (lkc p c i) ∧ ∃ ν1, fX10_switchesBy (lkc p c i) ν = some ν1 ∧ SM ν1 N m (swk c (lkc p c i)) t ∧ Fr [79] ν ν1 ∧ ∀ ξ, SM ξ N m (swk c (lkc p c i)) t → ξ 89 = ν1 89 → qLd ξ 89 4096 i = some (lkc p c i) ∧ ∃ ν2, fX10_takesBackBy (lkc p c i) ξ = some ν2 ∧ SM ν2 N m c t ∧ Fr [79] ξ ν2 ∧ qLd ν2 89 4096 i = some (lkc p c i) := by
  obtain ⟨k1, k2, k3⟩ := lkc_ok hi.1 hi.2
  have hS := lsz_le (p := p) hV
  have ecode : ∀ ξ : qMu, ξ 89 = ν 89 → qLd ξ 89 4096 i = some (lkc p c i) := fun ξ hξ => by
    rw [qLd_in (by omega), rd_cg hξ, hL.at hi.1 hi.2]
  obtain ⟨ν1, a1, a2, a3⟩ := m_swk h hV hV' k1 k2
  refine ⟨ecode ν rfl, ν1, a1, a2, a3, fun ξ hξ h89 => ?_⟩
  obtain ⟨ν2, d2, d3, d4⟩ := m_tbk hξ hV hV' k1 k2
  have e89 : ξ 89 = ν 89 := h89.trans (a3 89 (by decide))
  exact ⟨ecode ξ e89, ν2, d2, d3, d4, ecode ν2 ((d4 89 (by decide)).trans e89)⟩
theorem Vd.e0 (hV : Vd N c) : 0 ≤ Ed c := rs_nn (fun k _ _ => rs_nn (fun j _ _ => hV.2.1 k j))
theorem mz_r (x : Int) : 0 ≤ mz x := by
  unfold mz
  split <;> omega
theorem sps_r (hV : Vd N c) (hV' : Vd N t) : 0 ≤ sps c t ∧ sps c t ≤ 16 := by
  refine ⟨rs_nn (fun u _ _ => rs_nn (fun v _ _ => mz_r _)), ?_⟩
  have h1 : sps c t ≤ Ed c := rs_le (fun u _ _ => rs_le (fun v _ _ => by
    have a := hV.2.1 u v
    have b := hV'.2.1 u v
    unfold mz
    split <;> omega))
  have := hV.2.2.2.2
  omega
theorem dfc_r (hV : Vd N c) : 0 ≤ dfc c ∧ dfc c ≤ 16 := by
  have h0 : 0 ≤ lpc c := rs_nn (fun v _ _ => hV.2.1 v v)
  refine ⟨?_, ?_⟩
  · have : 0 ≤ rs (fun u => rs (fun v => mz (c u v - 1)) (u + 1) 8) 0 8 := rs_nn (fun u _ _ => rs_nn (fun v _ _ => mz_r _))
    unfold dfc
    omega
  · have e : dfc c ≤ Ed c := by
      unfold dfc lpc Ed
      rw [← rs_add]
      refine rs_le (fun u u1 u2 => ?_)
      show c u u + rs (fun v => mz (c u v - 1)) (u + 1) 8 ≤ rs (fun v => c u v) u 8
      rw [rs_step (f := fun v => c u v) u2]
      have : rs (fun v => mz (c u v - 1)) (u + 1) 8 ≤ rs (fun v => c u v) (u + 1) 8 := rs_le (fun v _ _ => by
        have := hV.2.1 u v
        unfold mz
        split <;> omega)
      omega
    have := hV.2.2.2.2
    omega
/-! the nearest one -/
noncomputable def nrf (p : Int) (c t : Int → Int → Int) (i : Int) : Int := sps (swk c (lkc p c i)) t
theorem nrf_r (hV : Vd N c) (hV' : Vd N t) {i : Int} (hi : 0 ≤ i ∧ i < lsz p c) : 0 ≤ nrf p c t i ∧ nrf p c t i ≤ 16 := by
  obtain ⟨k1, k2, k3⟩ := lkc_ok hi.1 hi.2
  exact sps_r (swk_ok hV k2).1 hV'
theorem x_nearest (hn : 5000 ≤ n) (h : GY μ 11 N c) (hV : Vd N c) (h' : GX μ 13 N t) (hV' : Vd N t) (hp : rd μ 0 11 = p) (hpr : 0 ≤ p ∧ p ≤ 2) : ∃ μ', Fr [15, 16, 26, 27] μ μ' ∧ ((lsz p c = 0 ∧ fX9_nearest n μ = some (.inr 2, μ')) ∨ (0 < lsz p c ∧ ∃ r, AM (nrf p c t) (lsz p c) r ∧ fX9_nearest n μ = some (.inl r, μ'))) := by
  have hN := hV.N
  have hS := lsz_le (p := p) hV
  have hS0 := lsz_nn p c
  have hE0 := hV.e0
  have hE1 := hV.2.2.2.2
  obtain ⟨μ1, a1, a2, a3, a4⟩ := x_fill (p := p) hn h.1 hV hpr (by decide)
  by_cases h0 : lsz p c = 0
  · refine ⟨μ1, a4.wk (by simp), Or.inl ⟨h0, ?_⟩⟩
    simp (disch := omega) only [fX9_nearest, hp, a1, Option.bind_some, fX7_length, a2, h0, wr_id, if_pos, ite_true]
  · obtain ⟨μ2, b1, b2, b3⟩ := x_become (g := 15) (o := 11) hn (h.kp (a4 11 (by decide)) (a4 12 (by decide))) hV.bd (by decide) (by decide) (by decide) (by omega) (by omega)
    have f2 : Fr [15, 16, 26, 27] μ μ2 := (a4.wk (by simp)).tr (b3.wk (by simp))
    obtain ⟨b, r1, r2, r3⟩ := lp_inv (f := fun x : Int × Int × Int × qMu => bX9_nearest_53 n x.1 x.2.1 x.2.2.1 x.2.2.2) (fun k x => (x.2.2.1 = lsz p c - (k : Int) ∧ 0 ≤ x.2.2.1) ∧ (GY x.2.2.2 15 N c ∧ rd x.2.2.2 26 1 = lsz p c ∧ Lst p c x.2.2.2 27 4096 ∧ Fr [15, 16, 26, 27] μ x.2.2.2) ∧ ((x.2.2.1 = 0 ∧ x.1 = 0 ∧ x.2.1 = 17) ∨ (AM (nrf p c t) x.2.2.1 x.1 ∧ x.2.1 = nrf p c t x.1))) (fun y => Fr [15, 16, 26, 27] μ y.2 ∧ AM (nrf p c t) (lsz p c) y.1) (by
      rintro k ⟨z1, z2, i, ξ⟩ ⟨⟨h4, h5⟩, ⟨h6, h7, h8, h9⟩, h10⟩
      dsimp only at h4 h5 h6 h7 h8 h9 h10
      by_cases hi : i < lsz p c
      · right
        obtain ⟨p1, ξ1, p2, p3, p4, kb, p5, p6⟩ := x_probe h6 h8 hV ⟨h5, hi⟩
        obtain ⟨q1, ξ2, q2, q3, q4, q5⟩ := p6 ξ1 rfl rfl rfl
        obtain ⟨k1, k2, k3⟩ := lkc_ok h5 hi
        have fr : Fr [15, 16] ξ ξ2 := p4.tr q4
        have hX' : GX ξ1 13 N t := h'.kp ((p4 13 (by decide)).trans (h9 13 (by decide))) ((p4 14 (by decide)).trans (h9 14 (by decide)))
        have es : fX1_surplusOver n 15 13 ξ1 = some (nrf p c t i) := x_surplusOver hn p3.1 (swk_ok hV k2).1 hX' hV'
        have hr := nrf_r hV hV' ⟨h5, hi⟩
        have hz2 : 0 ≤ z2 ∧ z2 ≤ 17 := by
          rcases h10 with ⟨-, -, q⟩ | ⟨q, q'⟩
          · omega
          · have := nrf_r (p := p) (i := z1) hV hV' ⟨q.1.1, by have := q.1.2; omega⟩
            omega
        refine ⟨k - 1, ((if nrf p c t i < z2 then i else z1), (if nrf p c t i < z2 then nrf p c t i else z2), i + 1, ξ2), ?_, by omega, ⟨by dsimp only; omega, by dsimp only; omega⟩, ⟨q3, ?_, ?_, h9.tr (fr.wk (by simp))⟩, Or.inr ?_⟩
        · have e0 : fX7_length ξ = some (lsz p c) := by
            rw [← h7]
            rfl
          show bX9_nearest_53 n z1 z2 i ξ = _
          unfold bX9_nearest_53
          rw [e0, obs, wr_id (by omega) (by omega), wr_id (by omega) (by omega), if_pos hi, p1, obs, p2, obs, es, obs, q1, obs, p5, obs, q2, obs, wr_id (by omega) (by omega), wr_id (by omega) (by omega)]
        · dsimp only
          rw [rd_cg (fr 26 (by decide))]
          exact h7
        · intro j j1 j2 hj
          dsimp only
          rw [rd_cg (fr 27 (by decide))]
          exact h8 j j1 j2 hj
        · dsimp only
          rcases h10 with ⟨rfl, rfl, rfl⟩ | ⟨⟨g1, g2, g3⟩, g4⟩
          · rw [if_pos (by omega), if_pos (by omega)]
            exact ⟨⟨by omega, fun j j1 j2 => by omega, fun j j1 j2 => by rw [show j = 0 by omega]; exact Int.le_refl _⟩, rfl⟩
          · by_cases q : nrf p c t i < z2
            · rw [if_pos q, if_pos q]
              refine ⟨⟨by omega, fun j j1 j2 => ?_, fun j j1 j2 => ?_⟩, rfl⟩
              · by_cases e : j < z1
                · have := g2 j j1 e; omega
                · have := g3 j (by omega) j2; omega
              · have : j = i := by omega
                rw [this]
                exact Int.le_refl _
            · rw [if_neg q, if_neg q]
              refine ⟨⟨by omega, g2, fun j j1 j2 => ?_⟩, g4⟩
              by_cases e : j = i
              · rw [e]; omega
              · exact g3 j j1 (by omega)
      · left
        have hiS : i = lsz p c := by omega
        subst hiS
        refine ⟨(z1, ξ), ?_, h9, ?_⟩
        · simp (disch := omega) only [bX9_nearest_53, fX7_length, h7, Option.bind_some, wr_id, if_neg]
        · rcases h10 with ⟨q, -, -⟩ | ⟨q, -⟩
          · omega
          · exact q) n (lsz p c).toNat (0, 17, 0, μ2) ⟨⟨by dsimp only; omega, Int.le_refl _⟩, ⟨b2, by dsimp only; rw [rd_cg (b3 26 (by decide))]; exact a2, fun j j1 j2 hj => by dsimp only; rw [rd_cg (b3 27 (by decide))]; exact a3 j j1 j2 hj, f2⟩, Or.inl ⟨rfl, rfl, rfl⟩⟩ (by omega)
    refine ⟨b.2, r2, Or.inr ⟨by omega, b.1, r3, ?_⟩⟩
    simp (disch := omega) only [fX9_nearest, hp, a1, Option.bind_some, fX7_length, a2, wr_id, if_neg, b1, r1]
theorem m_nearest (hn : 5000 ≤ n) (h : SM μ N m c t) (hV : Vd N c) (hV' : Vd N t) (hm : 0 ≤ m ∧ m ≤ 2) : ∃ μ', Fr [78, 79, 89] μ μ' ∧ SM μ' N m c t ∧ (∀ i, i ≠ 4 → rd μ' 78 i = rd μ 78 i) ∧ ((lsz m c = 0 ∧ fX10_nearest n μ = some (0, μ') ∧ rd μ' 78 4 = 1) ∨ (0 < lsz m c ∧ ∃ r, AM (nrf m c t) (lsz m c) r ∧ fX10_nearest n μ = some (r, μ') ∧ rd μ' 78 4 = 0)) := by
  have hN := hV.N
  have hS := lsz_le (p := m) hV
  have hS0 := lsz_nn m c
  obtain ⟨μ1, a1, a2, a3, a4⟩ := m_laysList hn h hV hV' hm
  by_cases h0 : lsz m c = 0
  · refine ⟨up μ1 78 4 1, (a4.wk (by simp)).tr (Fr.up (by simp)), a2.kp (up_ne (μ := μ1) (a := 78) (b := 79) (i := 4) (v := 1) (by decide)), fun i hi => by rw [rd_ni hi, rd_cg (a4 78 (by decide))], Or.inl ⟨h0, ?_, by rw [rd_at]; rfl⟩⟩
    simp (disch := omega) only [fX10_nearest, qLd_in, h.2.1, a1, Option.bind_some, h0, wr_id, fX10_good, qPf_eq, qbl, if_pos, if_neg, ite_true, true_or]
  · have f1 : Fr [78, 79, 89] μ (up μ1 78 4 0) := (a4.wk (by simp)).tr (Fr.up (by simp))
    obtain ⟨b, r1, r2, r3, r4, r5⟩ := lp_inv (f := fun x : Int × Int × Int × qMu => bX10_nearest_36 n (lsz m c) x.1 x.2.1 x.2.2.1 x.2.2.2) (fun k x => (x.2.2.1 = lsz m c - (k : Int) ∧ 0 ≤ x.2.2.1) ∧ (SM x.2.2.2 N m c t ∧ Lst m c x.2.2.2 89 4096 ∧ Fr [79] (up μ1 78 4 0) x.2.2.2) ∧ ((x.2.2.1 = 0 ∧ x.1 = 0 ∧ x.2.1 = 0) ∨ (AM (nrf m c t) x.2.2.1 x.1 ∧ x.2.1 = nrf m c t x.1))) (fun y => SM y.2 N m c t ∧ Fr [79] (up μ1 78 4 0) y.2 ∧ AM (nrf m c t) (lsz m c) y.1 ∧ True) (by
      rintro k ⟨z1, z2, i, ξ⟩ ⟨⟨h4, h5⟩, ⟨h6, h8, h9⟩, h10⟩
      dsimp only at h4 h5 h6 h8 h9 h10
      by_cases hi : i < lsz m c
      · right
        obtain ⟨p1, ξ1, p2, p3, p4, p6⟩ := m_probe h6 h8 hV hV' ⟨h5, hi⟩
        obtain ⟨q1, ξ2, q2, q3, q4, q5⟩ := p6 ξ1 p3 rfl
        obtain ⟨k1, k2, k3⟩ := lkc_ok h5 hi
        have fr : Fr [79] ξ ξ2 := p4.tr q4
        have es : fX10_differenceNow n ξ1 = some (nrf m c t i) := m_differenceNow hn p3.2.2.1 (swk_ok hV k2).1 p3.2.2.2 hV'
        have hr := nrf_r hV hV' ⟨h5, hi⟩
        have hz2 : 0 ≤ z2 ∧ z2 ≤ 17 := by
          rcases h10 with ⟨-, -, q⟩ | ⟨q, q'⟩
          · omega
          · have := nrf_r (p := m) (i := z1) hV hV' ⟨q.1.1, by have := q.1.2; omega⟩
            omega
        refine ⟨k - 1, ((if i = 0 then i else if nrf m c t i < z2 then i else z1), (if i = 0 then nrf m c t i else if nrf m c t i < z2 then nrf m c t i else z2), i + 1, ξ2), ?_, by omega, ⟨by dsimp only; omega, by dsimp only; omega⟩, ⟨q3, ?_, h9.tr fr⟩, Or.inr ?_⟩
        · simp (disch := omega) only [bX10_nearest_36, Option.bind_some, wr_id, if_pos, p1, p2, es, q1, q2]
        · intro j j1 j2 hj
          dsimp only
          rw [rd_cg (fr 89 (by decide))]
          exact h8 j j1 j2 hj
        · dsimp only
          rcases h10 with ⟨rfl, rfl, rfl⟩ | ⟨⟨g1, g2, g3⟩, g4⟩
          · rw [if_pos rfl, if_pos rfl]
            exact ⟨⟨by omega, fun j j1 j2 => by omega, fun j j1 j2 => by rw [show j = 0 by omega]; exact Int.le_refl _⟩, rfl⟩
          · rw [if_neg (show ¬ i = 0 by omega), if_neg (show ¬ i = 0 by omega)]
            by_cases q : nrf m c t i < z2
            · rw [if_pos q, if_pos q]
              refine ⟨⟨by omega, fun j j1 j2 => ?_, fun j j1 j2 => ?_⟩, rfl⟩
              · by_cases e : j < z1
                · have := g2 j j1 e; omega
                · have := g3 j (by omega) j2; omega
              · have : j = i := by omega
                rw [this]
                exact Int.le_refl _
            · rw [if_neg q, if_neg q]
              refine ⟨⟨by omega, g2, fun j j1 j2 => ?_⟩, g4⟩
              by_cases e : j = i
              · rw [e]; omega
              · exact g3 j j1 (by omega)
      · left
        have hiS : i = lsz m c := by omega
        subst hiS
        refine ⟨(z1, ξ), ?_, h6, h9, ?_, trivial⟩
        · simp (disch := omega) only [bX10_nearest_36, wr_id, if_neg]
        · rcases h10 with ⟨q, -, -⟩ | ⟨q, -⟩
          · omega
          · exact q) n (lsz m c).toNat (0, 0, 0, up μ1 78 4 0) ⟨⟨by dsimp only; omega, Int.le_refl _⟩, ⟨a2.kp (up_ne (μ := μ1) (a := 78) (b := 79) (i := 4) (v := 0) (by decide)), fun j j1 j2 hj => by dsimp only; rw [rd_na (by decide)]; exact a3 j j1 j2 hj, Fr.rf _ _⟩, Or.inl ⟨rfl, rfl, rfl⟩⟩ (by omega)
    refine ⟨b.2, f1.tr (r3.wk (by simp)), r2, fun i hi => by rw [rd_cg (r3 78 (by decide)), rd_ni hi, rd_cg (a4 78 (by decide))], Or.inr ⟨by omega, b.1, r4, ?_, by rw [rd_cg (r3 78 (by decide)), rd_at]; rfl⟩⟩
    simp (disch := omega) only [fX10_nearest, qLd_in, h.2.1, a1, Option.bind_some, wr_id, fX10_good, qPf_eq, qbl, if_pos, if_neg, ite_true, or_true, r1]
end PRB
