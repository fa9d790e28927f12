/-! a switch done, and taken back -/
def sw (c : Int → Int → Int) (a b x y : Int) : Int → Int → Int := addc (addc (addc (addc c a b (-1)) x y (-1)) a x 1) b y 1
def dl (a b u v : Int) : Int := if (u = a ∧ v = b) ∨ (u = b ∧ v = a) then 1 else 0
theorem dl_r (a b u v : Int) : 0 ≤ dl a b u v ∧ dl a b u v ≤ 1 := by
  unfold dl
  split <;> omega
theorem dl_1 {a b u v : Int} (h : (u = a ∧ v = b) ∨ (u = b ∧ v = a)) : dl a b u v = 1 := if_pos h
theorem dl_0 {a b u v : Int} (h : ¬ ((u = a ∧ v = b) ∨ (u = b ∧ v = a))) : dl a b u v = 0 := if_neg h
theorem dl_sy (a b u v : Int) : dl a b u v = dl a b v u := by
  by_cases h : (u = a ∧ v = b) ∨ (u = b ∧ v = a)
  · rw [dl_1 h, dl_1 (h.elim (fun q => Or.inr ⟨q.2, q.1⟩) (fun q => Or.inl ⟨q.2, q.1⟩))]
  · rw [dl_0 h, dl_0 (fun q => h (q.elim (fun q => Or.inr ⟨q.2, q.1⟩) (fun q => Or.inl ⟨q.2, q.1⟩)))]
theorem addc_p {c : Int → Int → Int} {a b u v : Int} : addc c a b 1 u v = c u v + dl a b u v := addc_pl c a b 1 u v
theorem addc_m {c : Int → Int → Int} {a b u v : Int} : addc c a b (-1) u v = c u v - dl a b u v := by
  rw [addc_pl]
  unfold dl
  split <;> omega
theorem sw_pl (c : Int → Int → Int) (a b x y u v : Int) : sw c a b x y u v = c u v - dl a b u v - dl x y u v + dl a x u v + dl b y u v := by
  unfold sw
  rw [addc_p, addc_p, addc_m, addc_m]
theorem sw_back (c : Int → Int → Int) (a b x y : Int) : sw (sw c a b x y) a x b y = c := by
  funext u v
  rw [sw_pl, sw_pl]
  omega
theorem sw_nn {c : Int → Int → Int} {a b x y : Int} (hn : ∀ u v, 0 ≤ c u v) (hs : ∀ u v, c u v = c v u) (h1 : c a b ≠ 0) (h2 : ¬ (c x y - (if (a = x ∧ b = y) ∨ (a = y ∧ b = x) then 1 else 0) < 1)) (u v : Int) : 0 ≤ c u v - dl a b u v - dl x y u v := by
  have n3 := hn u v
  have n1 := hn a b
  have n4 := hn x y
  have d2 := dl_r x y u v
  by_cases q1 : (u = a ∧ v = b) ∨ (u = b ∧ v = a)
  · have e1 : c u v = c a b := by
      rcases q1 with ⟨rfl, rfl⟩ | ⟨rfl, rfl⟩
      · rfl
      · exact hs _ _
    rw [dl_1 q1]
    by_cases q2 : (u = x ∧ v = y) ∨ (u = y ∧ v = x)
    · have e2 : c u v = c x y := by
        rcases q2 with ⟨rfl, rfl⟩ | ⟨rfl, rfl⟩
        · rfl
        · exact hs _ _
      have e3 : (a = x ∧ b = y) ∨ (a = y ∧ b = x) := by omega
      rw [if_pos e3] at h2
      rw [dl_1 q2]
      omega
    · rw [dl_0 q2]
      omega
  · rw [dl_0 q1]
    by_cases q2 : (u = x ∧ v = y) ∨ (u = y ∧ v = x)
    · have e2 : c u v = c x y := by
        rcases q2 with ⟨rfl, rfl⟩ | ⟨rfl, rfl⟩
        · rfl
        · exact hs _ _
      have e3 : 0 ≤ (if (a = x ∧ b = y) ∨ (a = y ∧ b = x) then (1 : Int) else 0) := by split <;> omega
      rw [dl_1 q2]
      omega
    · rw [dl_0 q2]
      omega
theorem sw_ok {N p : Int} {c : Int → Int → Int} {a b x y : Int} (hV : Vd N c) (h : rsn p c a b x y = 0) : (0 ≤ a ∧ a < N) ∧ (0 ≤ b ∧ b < N) ∧ (0 ≤ x ∧ x < N) ∧ (0 ≤ y ∧ y < N) ∧ Vd N (sw c a b x y) ∧ Ed (sw c a b x y) = Ed c ∧ ∀ w, dgs (sw c a b x y) w = dgs c w := by
  have hN := hV.N
  obtain ⟨h1, h2, h3, h4, h5⟩ := rsn_0 h
  have n1 := hV.2.1 a b
  have n2 : c x y ≠ 0 := by
    have e3 : 0 ≤ (if (a = x ∧ b = y) ∨ (a = y ∧ b = x) then (1 : Int) else 0) := by split <;> omega
    omega
  obtain ⟨ha, hb⟩ := hV.2.2.2.1 a b h1
  obtain ⟨hx, hy⟩ := hV.2.2.2.1 x y n2
  have nn := sw_nn hV.2.1 hV.2.2.1 h1 h2
  have eE : Ed (sw c a b x y) = Ed c := by
    unfold sw
    rw [Ed_addc (by omega) (by omega), Ed_addc (by omega) (by omega), Ed_addc (by omega) (by omega), Ed_addc (by omega) (by omega)]
    omega
  refine ⟨ha, hb, hx, hy, ⟨hN, fun u v => ?_, fun u v => ?_, fun u v hz => ?_, by rw [eE]; exact hV.2.2.2.2⟩, eE, fun w => ?_⟩
  · rw [sw_pl]
    have n3 := nn u v
    have d3 := dl_r a x u v
    have d4 := dl_r b y u v
    omega
  · rw [sw_pl, sw_pl, hV.2.2.1 u v, dl_sy a b u v, dl_sy x y u v, dl_sy a x u v, dl_sy b y u v]
  · rw [sw_pl] at hz
    by_cases q : c u v = 0
    · have n3 := nn u v
      have d1 := dl_r a b u v
      have d2 := dl_r x y u v
      have d3 := dl_r a x u v
      have d4 := dl_r b y u v
      by_cases q3 : (u = a ∧ v = x) ∨ (u = x ∧ v = a)
      · rcases q3 with ⟨rfl, rfl⟩ | ⟨rfl, rfl⟩
        · exact ⟨ha, hx⟩
        · exact ⟨hx, ha⟩
      · by_cases q4 : (u = b ∧ v = y) ∨ (u = y ∧ v = b)
        · rcases q4 with ⟨rfl, rfl⟩ | ⟨rfl, rfl⟩
          · exact ⟨hb, hy⟩
          · exact ⟨hy, hb⟩
        · rw [dl_0 q3, dl_0 q4] at hz
          omega
    · exact hV.2.2.2.1 u v q
  · have e : dgs (sw c a b x y) w = dgs c w + (if w = a then -1 else 0) + (if w = b then -1 else 0) + (if w = x then -1 else 0) + (if w = y then -1 else 0) + (if w = a then 1 else 0) + (if w = x then 1 else 0) + (if w = b then 1 else 0) + (if w = y then 1 else 0) := by
      unfold sw
      rw [dgs_addc (by omega) (by omega), dgs_addc (by omega) (by omega), dgs_addc (by omega) (by omega), dgs_addc (by omega) (by omega)]
    have f : ∀ z : Int, (if w = z then (-1 : Int) else 0) = -(if w = z then 1 else 0) := fun z => by split <;> omega
    rw [e, f a, f b, f x, f y]
    generalize (if w = a then (1 : Int) else 0) = z1
    generalize (if w = b then (1 : Int) else 0) = z2
    generalize (if w = x then (1 : Int) else 0) = z3
    generalize (if w = y then (1 : Int) else 0) = z4
    omega
section SWI
variable {μ : qMu} {g n : Nat} {N m p : Int} {c t : Int → Int → Int} {a b x y : Int}
theorem x_exchange (h : GY μ g N c) (hb0 : ∀ u v, -20 ≤ c u v ∧ c u v ≤ 20) (hE : -1000 ≤ Ed c ∧ Ed c ≤ 1000) (ha : 0 ≤ a ∧ a < 8) (hb : 0 ≤ b ∧ b < 8) (hx : 0 ≤ x ∧ x < 8) (hy : 0 ≤ y ∧ y < 8) : ∃ μ', fX1_exchangeEdges g (cd a b x y) μ = some μ' ∧ GY μ' g N (sw c a b x y) ∧ Fr [g, g + 1] μ μ' := by
  have b1 := Bd.ad hb0 a b (-1) (by omega) (by omega)
  have b2 := Bd.ad b1 x y (-1) (by omega) (by omega)
  have b3 := Bd.ad b2 a x 1 (by omega) (by omega)
  have E1 : Ed (addc c a b (-1)) = Ed c + (-1) := Ed_addc ha hb
  have E2 : Ed (addc (addc c a b (-1)) x y (-1)) = Ed c + (-1) + (-1) := by rw [Ed_addc hx hy, E1]
  have E3 : Ed (addc (addc (addc c a b (-1)) x y (-1)) a x 1) = Ed c + (-1) + (-1) + 1 := by rw [Ed_addc ha hx, E2]
  obtain ⟨μ1, p1, p2, p3⟩ := x_put h (fun u v => by have := hb0 u v; omega) (by omega) ha hb (k := -1) (by omega)
  obtain ⟨μ2, q1, q2, q3⟩ := x_put p2 (fun u v => by have := b1 u v; omega) (by omega) hx hy (k := -1) (by omega)
  obtain ⟨μ3, r1, r2, r3⟩ := x_put q2 (fun u v => by have := b2 u v; omega) (by omega) ha hx (k := 1) (by omega)
  obtain ⟨μ4, s1, s2, s3⟩ := x_put r2 (fun u v => by have := b3 u v; omega) (by omega) hb hy (k := 1) (by omega)
  obtain ⟨v0, v1, v2, v3⟩ := x_vertexOf (μ := μ) ha hb hx hy
  refine ⟨μ4, ?_, s2, ((p3.tr q3).tr r3).tr s3⟩
  simp only [fX1_exchangeEdges, v0, v1, v2, v3, Option.bind_some, p1, q1, r1, s1]
theorem x_exch (h : GY μ g N c) (hV : Vd N c) (hr : rsn p c a b x y = 0) : ∃ μ', fX1_exchangeEdges g (cd a b x y) μ = some μ' ∧ GY μ' g N (sw c a b x y) ∧ Fr [g, g + 1] μ μ' := by
  have hN := hV.N
  obtain ⟨ha, hb, hx, hy, -⟩ := sw_ok hV hr
  have h0 := hV.le 0 0
  have h1 := hV.2.1 0 0
  have h2 := hV.2.2.2.2
  exact x_exchange h (fun u v => by have := hV.r u v; omega) (by omega) (by omega) (by omega) (by omega) (by omega)
theorem x_backOf (ha : 0 ≤ a ∧ a < 8) (hb : 0 ≤ b ∧ b < 8) (hx : 0 ≤ x ∧ x < 8) (hy : 0 ≤ y ∧ y < 8) : fX0_backOf (cd a b x y) μ = some (cd a x b y) := by
  obtain ⟨v0, v1, v2, v3⟩ := x_vertexOf (μ := μ) ha hb hx hy
  simp only [fX0_backOf, v0, v1, v2, v3, Option.bind_some, x_of ha hx hb hy]
/-- done and taken back -/
theorem x_exchb (h : GY μ g N (sw c a b x y)) (hV : Vd N c) (hr : rsn p c a b x y = 0) : ∃ μ', fX1_exchangeEdges g (cd a x b y) μ = some μ' ∧ GY μ' g N c ∧ Fr [g, g + 1] μ μ' := by
  have hN := hV.N
  obtain ⟨ha, hb, hx, hy, hV2, hE2, -⟩ := sw_ok hV hr
  have h0 := hV2.le 0 0
  have h1 := hV2.2.1 0 0
  have h2 := hV2.2.2.2.2
  obtain ⟨μ', q1, q2, q3⟩ := x_exchange (a := a) (b := x) (x := b) (y := y) h (fun u v => by have := hV2.r u v; omega) (by omega) (by omega) (by omega) (by omega) (by omega)
  rw [sw_back] at q2
  exact ⟨μ', q1, q2, q3⟩
theorem m_switches (h : SM μ N m c t) (hV : Vd N c) (hV' : Vd N t) (hr : rsn p c a b x y = 0) : ∃ μ', fX10_switches a b x y μ = some μ' ∧ SM μ' N m (sw c a b x y) t ∧ Fr [79] μ μ' := by
  have hN := hV.N
  obtain ⟨ha, hb, hx, hy, -⟩ := sw_ok hV hr
  obtain ⟨μ1, μ2, μ3, μ4, p1, p2, p3, p4, p5, p6, p7⟩ := m_four h hV hV' a b x y a x b y (-1) (-1) 1 1 (by omega) (by omega) (by omega) (by omega) (by omega)
  exact ⟨μ4, by simp only [fX10_switches, p1, p2, p3, p4, Option.bind_some], p6, p7⟩
theorem m_takesBack (h : SM μ N m (sw c a b x y) t) (hV : Vd N c) (hV' : Vd N t) (hr : rsn p c a b x y = 0) : ∃ μ', fX10_takesBack a b x y μ = some μ' ∧ SM μ' N m c t ∧ Fr [79] μ μ' := by
  have hN := hV.N
  obtain ⟨ha, hb, hx, hy, hV2, -⟩ := sw_ok hV hr
  obtain ⟨μ1, μ2, μ3, μ4, p1, p2, p3, p4, p5, p6, p7⟩ := m_four h hV2 hV' a x b y a b x y (-1) (-1) 1 1 (by omega) (by omega) (by omega) (by omega) (by omega)
  have e : addc (addc (addc (addc (sw c a b x y) a x (-1)) b y (-1)) a b 1) x y 1 = c := sw_back c a b x y
  rw [e] at p6
  exact ⟨μ4, by simp only [fX10_takesBack, p1, p2, p3, p4, Option.bind_some], p6, p7⟩
/-! by code -/
def swk (c : Int → Int → Int) (k : Int) : Int → Int → Int := sw c (k / 512 % 8) (k / 64 % 8) (k / 8 % 8) (k % 8)
theorem swk_ok {k : Int} (hV : Vd N c) (h : okc p c k) : Vd N (swk c k) ∧ Ed (swk c k) = Ed c ∧ ∀ w, dgs (swk c k) w = dgs c w := (sw_ok hV h.2).2.2.2.2
theorem x_exk {k : Int} (h : GY μ g N c) (hV : Vd N c) (hk : 0 ≤ k ∧ k < 4096) (hr : okc p c k) : ∃ μ', fX1_exchangeEdges g k μ = some μ' ∧ GY μ' g N (swk c k) ∧ Fr [g, g + 1] μ μ' := by
  obtain ⟨μ', q1, q2, q3⟩ := x_exch h hV hr.2
  rw [← cd_of hk] at q1
  exact ⟨μ', q1, q2, q3⟩
theorem x_exbk {k : Int} (h : GY μ g N (swk c k)) (hV : Vd N c) (hk : 0 ≤ k ∧ k < 4096) (hr : okc p c k) : ∃ kb μ', (∀ ν, fX0_backOf k ν = some kb) ∧ fX1_exchangeEdges g kb μ = some μ' ∧ GY μ' g N c ∧ Fr [g, g + 1] μ μ' := by
  obtain ⟨μ', q1, q2, q3⟩ := x_exchb h hV hr.2
  refine ⟨_, μ', fun ν => ?_, q1, q2, q3⟩
  have := x_backOf (μ := ν) (a := k / 512 % 8) (b := k / 64 % 8) (x := k / 8 % 8) (y := k % 8) (by omega) (by omega) (by omega) (by omega)
  rw [← cd_of hk] at this
  exact this
theorem m_swk {k : Int} (h : SM μ N m c t) (hV : Vd N c) (hV' : Vd N t) (hk : 0 ≤ k ∧ k < 4096) (hr : okc p c k) : ∃ μ', fX10_switchesBy k μ = some μ' ∧ SM μ' N m (swk c k) t ∧ Fr [79] μ μ' := by
  obtain ⟨μ', q1, q2, q3⟩ := m_switches h hV hV' hr.2
  obtain ⟨p0, p1, p2, p3⟩ := m_part (ν := μ) hk
  exact ⟨μ', by simp only [fX10_switchesBy, p0, p1, p2, p3, q1, Option.bind_some], q2, q3⟩
theorem m_tbk {k : Int} (h : SM μ N m (swk c k) t) (hV : Vd N c) (hV' : Vd N t) (hk : 0 ≤ k ∧ k < 4096) (hr : okc p c k) : ∃ μ', fX10_takesBackBy k μ = some μ' ∧ SM μ' N m c t ∧ Fr [79] μ μ' := by
  obtain ⟨μ', q1, q2, q3⟩ := m_takesBack h hV hV' hr.2
  obtain ⟨p0, p1, p2, p3⟩ := m_part (ν := μ) hk
  exact ⟨μ', by simp only [fX10_takesBackBy, p0, p1, p2, p3, q1, Option.bind_some], q2, q3⟩
end SWI
