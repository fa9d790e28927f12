/-! PICKS AND ROUNDS -/
def pS : Type := (Int → Int) × (Int → Int) × (Int → Int → Int)
noncomputable def pk (N a : Int) (s : pS) : pS := (lk1 s.1 a (ndi s.1 s.2.1 N), tk1 s.2.1 (ndi s.1 s.2.1 N), addc s.2.2 a (ndi s.1 s.2.1 N) 1)
noncomputable def pks (N a : Int) : Nat → pS → pS
  | 0, s => s
  | k + 1, s => pks N a k (pk N a s)
/-- there is somebody at each pick -/
def PS (N a : Int) : Nat → pS → Prop
  | 0, _ => True
  | k + 1, s => ndi s.1 s.2.1 N ≠ -1 ∧ PS N a k (pk N a s)
def JI (N S0 : Int) (s : pS) (a : Int) (k : Nat) : Prop := Vd N s.2.2 ∧ (∀ i, 0 ≤ i → i < N → 0 ≤ s.1 i) ∧ 2 * Ed s.2.2 + rs s.1 0 N = S0 ∧ (∀ i, s.2.1 i = 0 ∨ s.2.1 i = 1) ∧ s.2.1 a = 1 ∧ (k : Int) ≤ s.1 a
theorem rs_inN {N v : Int} (hv : 0 ≤ v ∧ v < N) : rs (fun w => if w = v then (1 : Int) else 0) 0 N = 1 := by
  have e : rs (fun w => if w = v then (1 : Int) else 0) 0 N = if v = v then (1 : Int) else 0 := rs_one (f := fun w => if w = v then (1 : Int) else 0) hv.1 hv.2 (fun k _ _ q => if_neg q)
  rw [e, if_pos rfl]
theorem rs_lk1 {l : Int → Int} {N a b : Int} (ha : 0 ≤ a ∧ a < N) (hb : 0 ≤ b ∧ b < N) : rs (lk1 l a b) 0 N = rs l 0 N - 2 := by
  have e1 : rs (fun i => lk1 l a b i + ((if i = a then 1 else 0) + (if i = b then 1 else 0))) 0 N = rs (lk1 l a b) 0 N + rs (fun i => (if i = a then 1 else 0) + (if i = b then 1 else 0)) 0 N := rs_add
  have e2 : rs (fun i => ((if i = a then 1 else 0) + (if i = b then 1 else 0) : Int)) 0 N = rs (fun i => if i = a then 1 else 0) 0 N + rs (fun i => if i = b then 1 else 0) 0 N := rs_add
  have e3 : rs (fun i => lk1 l a b i + ((if i = a then 1 else 0) + (if i = b then 1 else 0))) 0 N = rs l 0 N := rs_congr (fun i _ _ => by unfold lk1; omega)
  rw [rs_inN ha, rs_inN hb] at e2
  omega
theorem Vd.more {N : Int} {c : Int → Int → Int} {a b : Int} (hV : Vd N c) (ha : 0 ≤ a ∧ a < N) (hb : 0 ≤ b ∧ b < N) (hE : Ed c + 1 ≤ 16) : Vd N (addc c a b 1) := by
  have hN := hV.N
  refine ⟨hN, addc_nn hV.2.1 (by omega), fun u v => addc_sy hV.2.2.1 a b 1 u v, addc_sp hV.2.2.2.1 ha hb, ?_⟩
  rw [Ed_addc (by omega) (by omega)]
  omega
theorem L0_of {N S0 : Int} {l : Int → Int} {E : Int} (h : ∀ i, 0 ≤ i → i < N → 0 ≤ l i) (hE : 0 ≤ E) (hS : 2 * E + rs l 0 N = S0) (h32 : S0 ≤ 32) : L0 N l ∧ ∀ i, 0 ≤ i → i < N → l i ≤ 32 := by
  have : ∀ i, 0 ≤ i → i < N → l i ≤ 32 := fun i i1 i2 => by
    have := rs_ge (f := l) i1 i2 h
    omega
  exact ⟨fun i i1 i2 => ⟨h i i1 i2, by have := this i i1 i2; omega⟩, this⟩
theorem pk_ok {N S0 a : Int} {s : pS} {k : Nat} (h : JI N S0 s a (k + 1)) (ha : 0 ≤ a ∧ a < N) (h32 : S0 ≤ 32) (hb : ndi s.1 s.2.1 N ≠ -1) : JI N S0 (pk N a s) a k ∧ (0 ≤ ndi s.1 s.2.1 N ∧ ndi s.1 s.2.1 N < N) ∧ ndi s.1 s.2.1 N ≠ a ∧ s.2.1 (ndi s.1 s.2.1 N) = 0 := by
  obtain ⟨h1, h2, h3, h4, h5, h6⟩ := h
  have hN := h1.N
  rcases ndi_ok (l := s.1) (T := s.2.1) (by omega : 0 ≤ N) h2 with ⟨q, -⟩ | ⟨q1, q2, q3, q4⟩
  · exact absurd q hb
  · generalize hbb : ndi s.1 s.2.1 N = b at *
    have hba : b ≠ a := fun q => by
      rw [q] at q2
      omega
    have hpk : pk N a s = (lk1 s.1 a b, tk1 s.2.1 b, addc s.2.2 a b 1) := by
      unfold pk
      rw [hbb]
    have nn : ∀ i, 0 ≤ i → i < N → 0 ≤ lk1 s.1 a b i := fun i i1 i2 => by
      have := h2 i i1 i2
      unfold lk1
      by_cases c1 : i = a
      · rw [if_pos c1, if_neg (by omega), c1]
        omega
      · rw [if_neg c1]
        by_cases c2 : i = b
        · rw [if_pos c2, c2]
          omega
        · rw [if_neg c2]
          omega
    have hr := rs_lk1 (l := s.1) ha q1
    have h0 : 0 ≤ rs (lk1 s.1 a b) 0 N := rs_nn nn
    have hE0 := h1.e0
    rw [hpk]
    refine ⟨⟨h1.more ha q1 (by omega), nn, ?_, tk1_01 h4 b, ?_, ?_⟩, q1, hba, q2⟩
    · dsimp only
      rw [Ed_addc (by omega) (by omega), hr]
      omega
    · dsimp only
      unfold tk1
      rw [if_neg (fun q => hba q.symm)]
      exact h5
    · dsimp only
      unfold lk1
      rw [if_pos rfl, if_neg (fun q => hba q.symm)]
      omega
theorem pks_ok {N S0 a : Int} (ha : 0 ≤ a ∧ a < N) (h32 : S0 ≤ 32) : ∀ (k : Nat) (s : pS) (j : Nat), JI N S0 s a (k + j) → PS N a k s → JI N S0 (pks N a k s) a j
  | 0, s, j, h, _ => by
    rw [Nat.zero_add] at h
    exact h
  | k + 1, s, j, h, hp => by
    have h' : JI N S0 s a ((k + j) + 1) := by
      rw [show k + j + 1 = k + 1 + j by omega]
      exact h
    exact pks_ok ha h32 k _ j (pk_ok h' ha h32 hp.1).1 hp.2
/-- no more picks than others -/
theorem PS_le {N S0 a : Int} (ha : 0 ≤ a ∧ a < N) (h32 : S0 ≤ 32) : ∀ (k : Nat) (s : pS), JI N S0 s a k → PS N a k s → rs s.2.1 0 N + (k : Int) ≤ N
  | 0, s, h, _ => by
    have h1 : rs s.2.1 0 N ≤ rs (fun _ => (1 : Int)) 0 N := rs_le (fun i _ _ => by have := h.2.2.2.1 i; omega)
    have h2 : ∀ l : Nat, ∀ a : Int, sl (fun _ => (1 : Int)) a l = (l : Int) := by
      intro l
      induction l with
      | zero => intro a; rfl
      | succ l ih => intro a; unfold sl; rw [ih]; omega
    have h3 : rs (fun _ => (1 : Int)) 0 N = N := by
      unfold rs
      rw [h2]
      omega
    omega
  | k + 1, s, h, hp => by
    obtain ⟨q1, q2, q3, q4⟩ := pk_ok h ha h32 hp.1
    have ih := PS_le ha h32 k _ q1 hp.2
    have e1 : rs (fun i => s.2.1 i + (if i = ndi s.1 s.2.1 N then 1 else 0)) 0 N = rs s.2.1 0 N + rs (fun i => if i = ndi s.1 s.2.1 N then 1 else 0) 0 N := rs_add
    have e2 : rs (pk N a s).2.1 0 N = rs (fun i => s.2.1 i + (if i = ndi s.1 s.2.1 N then 1 else 0)) 0 N := rs_congr (fun i _ _ => by
      show tk1 s.2.1 (ndi s.1 s.2.1 N) i = _
      unfold tk1
      by_cases c1 : i = ndi s.1 s.2.1 N
      · rw [if_pos c1, if_pos c1, c1, q4]
        rfl
      · rw [if_neg c1, if_neg c1, Int.add_zero])
    rw [rs_inN q2] at e1
    omega
def T0 : Int → Int := fun _ => 0
/-- how many are joined in a round -/
def cnt (md : Int) (l : Int → Int) (a : Int) : Nat := if md = 1 then 1 else (l a).toNat
noncomputable def rnd (N md : Int) (l : Int → Int) (c : Int → Int → Int) : pS := pks N (ndi l T0 N) (cnt md l (ndi l T0 N)) (l, tk1 T0 (ndi l T0 N), c)
noncomputable def GR (N md : Int) : Nat → (Int → Int) → (Int → Int → Int) → Int → Int → Int
  | 0, _, c => c
  | k + 1, l, c => if ndi l T0 N = -1 then c else GR N md k (rnd N md l c).1 (rnd N md l c).2.2
/-- every round comes to its end -/
def GS (N md : Int) : Nat → (Int → Int) → (Int → Int → Int) → Prop
  | 0, l, _ => ndi l T0 N = -1
  | k + 1, l, c => ndi l T0 N = -1 ∨ (ndi l T0 N ≠ -1 ∧ PS N (ndi l T0 N) (cnt md l (ndi l T0 N)) (l, tk1 T0 (ndi l T0 N), c) ∧ GS N md k (rnd N md l c).1 (rnd N md l c).2.2)
theorem GR_e {N md : Int} {l : Int → Int} {c : Int → Int → Int} (h : ndi l T0 N = -1) : ∀ k, GR N md k l c = c
  | 0 => rfl
  | k + 1 => if_pos h
/-- what holds between rounds -/
def JJ (N S0 : Int) (l : Int → Int) (c : Int → Int → Int) : Prop := Vd N c ∧ (∀ i, 0 ≤ i → i < N → 0 ≤ l i) ∧ 2 * Ed c + rs l 0 N = S0
theorem JJ.ji {N S0 md : Int} {l : Int → Int} {c : Int → Int → Int} (h : JJ N S0 l c) (hm : md = 1 ∨ md = 2) (ha : ndi l T0 N ≠ -1) : (0 ≤ ndi l T0 N ∧ ndi l T0 N < N) ∧ 0 < l (ndi l T0 N) ∧ JI N S0 (l, tk1 T0 (ndi l T0 N), c) (ndi l T0 N) (cnt md l (ndi l T0 N)) := by
  obtain ⟨h1, h2, h3⟩ := h
  have hN := h1.N
  rcases ndi_ok (l := l) (T := T0) (by omega : 0 ≤ N) h2 with ⟨q, -⟩ | ⟨q1, q2, q3, q4⟩
  · exact absurd q ha
  · refine ⟨q1, q3, h1, h2, h3, tk1_01 (fun _ => Or.inl rfl) _, if_pos rfl, ?_⟩
    show ((cnt md l (ndi l T0 N) : Nat) : Int) ≤ l (ndi l T0 N)
    unfold cnt
    split
    · omega
    · omega
theorem JJ.next {N S0 md : Int} {l : Int → Int} {c : Int → Int → Int} (h : JJ N S0 l c) (h32 : S0 ≤ 32) (hm : md = 1 ∨ md = 2) (ha : ndi l T0 N ≠ -1) (hp : PS N (ndi l T0 N) (cnt md l (ndi l T0 N)) (l, tk1 T0 (ndi l T0 N), c)) : JJ N S0 (rnd N md l c).1 (rnd N md l c).2.2 := by
  obtain ⟨q1, q2, q3⟩ := h.ji hm ha
  obtain ⟨r1, r2, r3, -⟩ := pks_ok q1 h32 (cnt md l (ndi l T0 N)) _ 0 q3 hp
  exact ⟨r1, r2, r3⟩
section PIC
variable {μ ν : qMu} {n : Nat} {N m S0 : Int} {l T : Int → Int} {c t : Int → Int → Int} {a : Int}
theorem x_join {b : Int} (h : GY μ 11 N c) (hV : Vd N c) (hL : LK μ 25 N l) (hl : L0 N l) (ha : 0 ≤ a ∧ a < N) (hb : 0 ≤ b ∧ b < N) (hab : b ≠ a) : ∃ μ', fX6_join 22 11 a b μ = some μ' ∧ GY μ' 11 N (addc c a b 1) ∧ LK μ' 25 N (lk1 l a b) ∧ Fr [11, 12, 25] μ μ' := by
  have hN := hV.N
  have hE0 := hV.e0
  have hE1 := hV.2.2.2.2
  obtain ⟨μ1, p1, p2, p3⟩ := x_put h hV.bd (by omega) (u := a) (v := b) (k := 1) (by omega) (by omega) (by omega)
  have e1 : rd μ1 25 a = l a := (rd_cg (p3 25 (by decide)) a).trans (hL a ha.1 ha.2)
  have e2 : rd (up μ1 25 a (l a - 1)) 25 b = l b := by
    rw [rd_ni hab, rd_cg (p3 25 (by decide))]
    exact hL b hb.1 hb.2
  have b1 := hl a ha.1 ha.2
  have b2 := hl b hb.1 hb.2
  refine ⟨up (up μ1 25 a (l a - 1)) 25 b (l b - 1), ?_, (p2.kp (up_ne (μ := μ1) (a := 25) (b := 11) (i := a) (v := l a - 1) (by decide)) (up_ne (μ := μ1) (a := 25) (b := 12) (i := a) (v := l a - 1) (by decide))).kp (up_ne (a := 25) (b := 11) (i := b) (v := l b - 1) (by decide)) (up_ne (a := 25) (b := 12) (i := b) (v := l b - 1) (by decide)), fun i i1 i2 => ?_, ((p3.wk (by simp)).tr (Fr.up (by simp))).tr (Fr.up (by simp))⟩
  · simp (disch := omega) only [fX6_join, wr_id, if_neg, p1, Option.bind_some, qLd_in, e1, qSa_in, e2]
  · unfold lk1
    by_cases c1 : i = b
    · rw [c1, rd_at, if_neg hab, if_pos rfl, wr_id (by omega) (by omega)]
      omega
    · rw [rd_ni c1]
      by_cases c2 : i = a
      · rw [c2, rd_at, if_pos rfl, if_neg (fun q => hab q.symm), wr_id (by omega) (by omega)]
        omega
      · rw [rd_ni c2, if_neg c2, if_neg c1, rd_cg (p3 25 (by decide)), hL i i1 i2]
        omega
/-- one pick in the reference -/
theorem m_pick {b : Int} (h : SM μ N m c t) (hV : Vd N c) (hV' : Vd N t) (hL : LK μ 87 N l) (hl : L0 N l) (hT : LK μ 88 8 T) (ha : 0 ≤ a ∧ a < N) (hb : 0 ≤ b ∧ b < N) (hab : b ≠ a) : ∃ μ', (qSa μ 88 8 b (qNr .boolean 1)) = some (up μ 88 b 1) ∧ (∃ μ1, fX10_adds 2 a b 1 (up μ 88 b 1) = some μ1 ∧ qLd μ1 87 8 a = some (l a) ∧ qSa μ1 87 8 a (l a - 1) = some (up μ1 87 a (l a - 1)) ∧ qLd (up μ1 87 a (l a - 1)) 87 8 b = some (l b) ∧ qSa (up μ1 87 a (l a - 1)) 87 8 b (l b - 1) = some μ') ∧ SM μ' N m (addc c a b 1) t ∧ LK μ' 87 N (lk1 l a b) ∧ LK μ' 88 8 (tk1 T b) ∧ Fr [79, 87, 88] μ μ' := by
  have hN := hV.N
  have e0 : qNr .boolean 1 = 1 := rfl
  obtain ⟨μ1, p1, p2, p3⟩ := m_adds (T := 2) (h.kp (up_ne (μ := μ) (a := 88) (b := 79) (i := b) (v := 1) (by decide))) (Or.inl rfl) hV.bd hV'.bd (u := a) (v := b) (k := 1) (by omega) (by omega) (by omega)
  rw [if_pos rfl, if_pos rfl] at p2
  have e1 : ∀ i, rd μ1 87 i = rd μ 87 i := fun i => by rw [rd_cg (p3 87 (by decide)), rd_na (by decide)]
  have b1 := hl a ha.1 ha.2
  have b2 := hl b hb.1 hb.2
  refine ⟨up (up μ1 87 a (l a - 1)) 87 b (l b - 1), ?_, ⟨μ1, p1, ?_, ?_, ?_, ?_⟩, (p2.kp (up_ne (μ := μ1) (a := 87) (b := 79) (i := a) (v := l a - 1) (by decide))).kp (up_ne (a := 87) (b := 79) (i := b) (v := l b - 1) (by decide)), fun i i1 i2 => ?_, fun i i1 i2 => ?_, (((Fr.up (by simp)).tr (p3.wk (by simp))).tr (Fr.up (by simp))).tr (Fr.up (by simp))⟩
  · rw [e0]
    exact qSa_in (by omega)
  · rw [qLd_in (by omega), e1, hL a ha.1 ha.2]
  · exact qSa_in (by omega)
  · rw [qLd_in (by omega), rd_ni hab, e1, hL b hb.1 hb.2]
  · exact qSa_in (by omega)
  · unfold lk1
    by_cases c1 : i = b
    · rw [c1, rd_at, if_neg hab, if_pos rfl, wr_id (by omega) (by omega)]
      omega
    · rw [rd_ni c1]
      by_cases c2 : i = a
      · rw [c2, rd_at, if_pos rfl, if_neg (fun q => hab q.symm), wr_id (by omega) (by omega)]
        omega
      · rw [rd_ni c2, if_neg c2, if_neg c1, e1, hL i i1 i2]
        omega
  · rw [rd_na (by decide), rd_na (by decide), rd_cg (p3 88 (by decide))]
    unfold tk1
    by_cases c1 : i = b
    · rw [c1, rd_at, if_pos rfl]
      rfl
    · rw [rd_ni c1, if_neg c1, hT i i1 i2]
theorem m_joins {d : Nat} (hn : 5000 ≤ n) (h : SM μ N m c t) (hV' : Vd N t) (h32 : S0 ≤ 32) (hL : LK μ 87 N l) (ha : 0 ≤ a ∧ a < N) (hJ : JI N S0 (l, tk1 T0 a, c) a d) (hP : PS N a d (l, tk1 T0 a, c)) (hd : d ≤ 32) : ∃ μ', fX10_joins n a (d : Int) μ = some μ' ∧ SM μ' N m (pks N a d (l, tk1 T0 a, c)).2.2 t ∧ LK μ' 87 N (pks N a d (l, tk1 T0 a, c)).1 ∧ Fr [79, 87, 88] μ μ' := by
  have hN := hJ.1.N
  obtain ⟨μ0, z1, z2, z3⟩ := m_freesAll (μ := μ) hn
  have e0 : qNr .boolean 1 = 1 := rfl
  have hT0 : LK (up μ0 88 a 1) 88 8 (tk1 T0 a) := fun i i1 i2 => by
    unfold tk1
    by_cases c1 : i = a
    · rw [c1, rd_at, if_pos rfl]
      rfl
    · rw [rd_ni c1, if_neg c1]
      exact z2 i i1 i2
  obtain ⟨y, r1, ν, r2, r3, r4, r5⟩ := lp_inv (f := fun x : Int × qMu => bX10_joins_13 n a (d : Int) x.1 x.2) (fun k x => ∃ s : pS, x.1 = (d : Int) - (k : Int) ∧ k ≤ d ∧ SM x.2 N m s.2.2 t ∧ LK x.2 87 N s.1 ∧ LK x.2 88 8 s.2.1 ∧ JI N S0 s a k ∧ PS N a k s ∧ pks N a k s = pks N a d (l, tk1 T0 a, c) ∧ Fr [79, 87, 88] μ x.2) (fun y => ∃ ν, y = .inl ν ∧ SM ν N m (pks N a d (l, tk1 T0 a, c)).2.2 t ∧ LK ν 87 N (pks N a d (l, tk1 T0 a, c)).1 ∧ Fr [79, 87, 88] μ ν) (by
    rintro k ⟨z, ξ⟩ ⟨s, h1, h2, h3, h4, h5, h6, h7, h8, h9⟩
    dsimp only at h1 h3 h4 h5 h9
    cases k with
    | zero =>
      left
      have e8 : s = pks N a d (l, tk1 T0 a, c) := h8
      refine ⟨.inl ξ, ?_, ξ, rfl, e8 ▸ h3, e8 ▸ h4, h9⟩
      simp (disch := omega) only [bX10_joins_13, wr_id, if_neg]
    | succ k =>
      right
      have hb := h7.1
      obtain ⟨q1, q2, q3, q4⟩ := pk_ok h6 ha h32 hb
      obtain ⟨hl, hl2⟩ := L0_of h6.2.1 h6.1.e0 h6.2.2.1 h32
      have hne := m_neediest hn (by omega) h3.1 h4 hl h5 h6.2.2.2.1
      obtain ⟨ξ', p0, ⟨ξ1, p1, p2, p3, p4, p5⟩, p6, p7, p8, p9⟩ := m_pick h3 h6.1 hV' h4 hl h5 ha q2 q3
      refine ⟨k, (z + 1, ξ'), ?_, by omega, pk N a s, by dsimp only; omega, by omega, p6, p7, p8, q1, h7.2, h8, h9.tr p9⟩
      simp (disch := omega) only [bX10_joins_13, wr_id, if_pos, if_neg, hne, Option.bind_some, p0, p1, p2, p3, p4, p5]) n d (0, up μ0 88 a 1) ⟨_, by dsimp only; omega, Nat.le_refl _, (h.kp (z3 79 (by decide))).kp (up_ne (μ := μ0) (a := 88) (b := 79) (i := a) (v := 1) (by decide)), fun i i1 i2 => by dsimp only; rw [rd_na (by decide), rd_cg (z3 87 (by decide))]; exact hL i i1 i2, hT0, hJ, hP, rfl, (z3.wk (by simp)).tr (Fr.up (by simp))⟩ (by omega)
  refine ⟨ν, ?_, r3, r4, r5⟩
  subst r2
  simp (disch := omega) only [fX10_joins, z1, Option.bind_some, e0, qSa_in, r1, Sum.elim_inl]
theorem m_rounds {md : Int} {K : Nat} (hn : 5000 ≤ n) (hK : K ≤ 16) (h : SM μ N m c t) (hV' : Vd N t) (h32 : S0 ≤ 32) (hm : md = 1 ∨ md = 2) (hL : LK μ 87 N l) (hT : LK μ 88 8 T0) (hJ : JJ N S0 l c) (hG : GS N md K l c) : fX10_neediest n μ = some (ndi l T0 N) ∧ ∃ μ', lp (fun x : Int × qMu => bX10_realises_53 n md x.1 x.2) n (ndi l T0 N, μ) = some μ' ∧ SM μ' N m (GR N md K l c) t ∧ Fr [79, 87, 88] μ μ' := by
  have hN := hJ.1.N
  refine ⟨m_neediest hn (by omega) h.1 hL (L0_of hJ.2.1 hJ.1.e0 hJ.2.2 h32).1 hT (fun _ => Or.inl rfl), ?_⟩
  obtain ⟨y, r1, r2, r3⟩ := lp_inv (f := fun x : Int × qMu => bX10_realises_53 n md x.1 x.2) (fun k x => ∃ l1 c1, x.1 = ndi l1 T0 N ∧ SM x.2 N m c1 t ∧ LK x.2 87 N l1 ∧ JJ N S0 l1 c1 ∧ GS N md k l1 c1 ∧ GR N md k l1 c1 = GR N md K l c ∧ Fr [79, 87, 88] μ x.2) (fun y => SM y N m (GR N md K l c) t ∧ Fr [79, 87, 88] μ y) (by
    rintro k ⟨z, ξ⟩ ⟨l1, c1, h1, h3, h4, h6, h7, h8, h9⟩
    dsimp only at h1 h3 h4 h9
    subst h1
    by_cases q : ndi l1 T0 N = -1
    · left
      rw [GR_e q] at h8
      refine ⟨ξ, ?_, h8 ▸ h3, h9⟩
      rw [q]
      simp (disch := omega) only [bX10_realises_53, wr_id, if_pos, ite_true]
    · right
      cases k with
      | zero => exact absurd h7 q
      | succ k =>
        rcases h7 with h7 | ⟨-, h7, h7'⟩
        · exact absurd h7 q
        · obtain ⟨g1, g2, g3⟩ := h6.ji hm q
          obtain ⟨hl, hl2⟩ := L0_of h6.2.1 h6.1.e0 h6.2.2 h32
          have hla := hl2 _ g1.1 g1.2
          have hd : cnt md l1 (ndi l1 T0 N) ≤ 32 := by
            unfold cnt
            split <;> omega
          have ec : (if md = 1 then 1 else l1 (ndi l1 T0 N)) = ((cnt md l1 (ndi l1 T0 N) : Nat) : Int) := by
            unfold cnt
            split <;> omega
          obtain ⟨ξ1, p1, p2, p3, p4⟩ := m_joins hn h3 hV' h32 h4 g1 g3 h7 hd
          obtain ⟨ξ2, s1, s2, s3⟩ := m_freesAll (μ := ξ1) hn
          have hJ2 := h6.next h32 hm q h7
          have p2' : SM ξ2 N m (rnd N md l1 c1).2.2 t := SM.kp p2 (s3 79 (by decide))
          have p3' : LK ξ2 87 N (rnd N md l1 c1).1 := fun i i1 i2 => (rd_cg (s3 87 (by decide)) i).trans (p3 i i1 i2)
          have hne := m_neediest hn (by omega) p2'.1 p3' (L0_of hJ2.2.1 hJ2.1.e0 hJ2.2.2 h32).1 s2 (fun _ => Or.inl rfl)
          have hne' : fX10_neediest n ξ2 = some (ndi (rnd N md l1 c1).1 T0 N) := hne
          have e4 : rd ξ 87 (ndi l1 T0 N) = l1 (ndi l1 T0 N) := h4 _ g1.1 g1.2
          refine ⟨k, (ndi (rnd N md l1 c1).1 T0 N, ξ2), ?_, by omega, (rnd N md l1 c1).1, (rnd N md l1 c1).2.2, rfl, p2', p3', hJ2, h7', ?_, h9.tr (p4.tr (s3.wk (by simp)))⟩
          · rcases hm with rfl | rfl
            · rw [if_pos rfl] at ec
              rw [← ec] at p1
              simp (disch := omega) only [bX10_realises_53, wr_id, if_pos, if_neg, ite_true, Option.bind_some, p1, s1, hne']
            · rw [if_neg (by omega)] at ec
              rw [← ec] at p1
              simp (disch := omega) only [bX10_realises_53, wr_id, if_pos, if_neg, ite_true, Option.bind_some, qLd_in, e4, p1, s1, hne']
          · rw [← h8]
            exact (if_neg q).symm) n K (ndi l T0 N, μ) ⟨l, c, rfl, h, hL, hJ, hG, rfl, Fr.rf _ _⟩ (by omega)
  exact ⟨y, r1, r2, r3⟩
/-! the class -/
theorem x_withoutLoops (hn : 5000 ≤ n) (h : GY μ 11 N c) (h0 : rd μ 22 3 = N) (h32 : S0 ≤ 32) (hL : LK μ 25 N l) (hJ : JJ N S0 l c) (hG : GS N 1 16 l c) : ∃ μ', fX6_buildWithoutLoops n 22 11 μ = some μ' ∧ GY μ' 11 N (GR N 1 16 l c) ∧ Fr [11, 12, 25] μ μ' := by
  have hN := hJ.1.N
  obtain ⟨y, r1, ν, r2, r3, r4⟩ := lp_inv (f := fun x : Int × qMu => bX6_buildWithoutLoops_2 n 22 11 x.1 x.2) (fun k x => x.1 = 16 - (k : Int) ∧ k ≤ 16 ∧ ∃ l1 c1, GY x.2 11 N c1 ∧ LK x.2 25 N l1 ∧ JJ N S0 l1 c1 ∧ GS N 1 k l1 c1 ∧ GR N 1 k l1 c1 = GR N 1 16 l c ∧ Fr [11, 12, 25] μ x.2) (fun y => ∃ ν, (y = .inl ν ∨ y = .inr ν) ∧ GY ν 11 N (GR N 1 16 l c) ∧ Fr [11, 12, 25] μ ν) (by
    rintro k ⟨z, ξ⟩ ⟨h1, h2, l1, c1, h3, h4, h6, h7, h8, h9⟩
    dsimp only at h1 h3 h4 h9
    obtain ⟨hl, hl2⟩ := L0_of h6.2.1 h6.1.e0 h6.2.2 h32
    have e0 : rd ξ 22 3 = N := (rd_cg (h9 22 (by decide)) 3).trans h0
    have hne : fX6_neediestBut n 22 0 ξ = some (ndi l1 T0 N) := x_neediestBut hn (by omega) e0 h4 hl mk_0
    cases k with
    | zero =>
      left
      refine ⟨.inl ξ, ?_, ξ, Or.inl rfl, ?_, h9⟩
      · simp (disch := omega) only [bX6_buildWithoutLoops_2, wr_id, if_neg]
      · rw [← h8]
        exact h3
    | succ k =>
      by_cases q : ndi l1 T0 N = -1
      · left
        rw [GR_e q] at h8
        refine ⟨.inr ξ, ?_, ξ, Or.inr rfl, h8 ▸ h3, h9⟩
        rw [q] at hne
        simp (disch := omega) only [bX6_buildWithoutLoops_2, wr_id, if_pos, hne, Option.bind_some, ite_true]
      · right
        rcases h7 with h7 | ⟨-, h7, h7'⟩
        · exact absurd h7 q
        · obtain ⟨g1, g2, g3⟩ := h6.ji (md := 1) (Or.inl rfl) q
          have hb : ndi l1 (tk1 T0 (ndi l1 T0 N)) N ≠ -1 := h7.1
          obtain ⟨q1, q2, q3, q4⟩ := pk_ok (k := 0) g3 g1 h32 hb
          have hne2 : fX6_neediestBut n 22 (ishl 1 (ndi l1 T0 N)) ξ = some (ndi l1 (tk1 T0 (ndi l1 T0 N)) N) := x_neediestBut hn (by omega) e0 h4 hl (mk_1 (by omega))
          obtain ⟨ξ1, p1, p2, p3, p4⟩ := x_join h3 h6.1 h4 hl g1 q2 q3
          refine ⟨k, (z + 1, ξ1), ?_, by omega, by dsimp only; omega, by omega, (rnd N 1 l1 c1).1, (rnd N 1 l1 c1).2.2, p2, p3, h6.next h32 (Or.inl rfl) q h7, h7', ?_, h9.tr p4⟩
          · simp (disch := omega) only [bX6_buildWithoutLoops_2, wr_id, if_pos, if_neg, hne, Option.bind_some, hne2]
            rw [p1]
            rfl
          · rw [← h8]
            exact (if_neg q).symm) n 16 (0, μ) ⟨rfl, Nat.le_refl _, l, c, h, hL, hJ, hG, rfl, Fr.rf _ _⟩ (by omega)
  refine ⟨ν, ?_, r3, r4⟩
  simp only [fX6_buildWithoutLoops, r1, Option.bind_some]
  rcases r2 with rfl | rfl <;> rfl
theorem x_simpleRound {d : Nat} (hn : 5000 ≤ n) (h : GY μ 11 N c) (h0 : rd μ 22 3 = N) (h32 : S0 ≤ 32) (hL : LK μ 25 N l) (ha : 0 ≤ a ∧ a < N) (hJ : JI N S0 (l, tk1 T0 a, c) a d) (hP : PS N a d (l, tk1 T0 a, c)) (hd : d ≤ 32) (z : Int) : ∃ μ', lp (fun x : Int × Int × qMu => bX6_buildSimple_40 n 22 11 z a x.1 x.2.1 x.2.2) n (ishl 1 a, (d : Int), μ) = some μ' ∧ GY μ' 11 N (pks N a d (l, tk1 T0 a, c)).2.2 ∧ LK μ' 25 N (pks N a d (l, tk1 T0 a, c)).1 ∧ Fr [11, 12, 25] μ μ' := by
  have hN := hJ.1.N
  obtain ⟨y, r1, r3, r4, r5⟩ := lp_inv (f := fun x : Int × Int × qMu => bX6_buildSimple_40 n 22 11 z a x.1 x.2.1 x.2.2) (fun k x => ∃ s : pS, x.2.1 = (k : Int) ∧ k ≤ d ∧ GY x.2.2 11 N s.2.2 ∧ LK x.2.2 25 N s.1 ∧ MK x.1 s.2.1 ∧ JI N S0 s a k ∧ PS N a k s ∧ pks N a k s = pks N a d (l, tk1 T0 a, c) ∧ Fr [11, 12, 25] μ x.2.2) (fun y => GY y 11 N (pks N a d (l, tk1 T0 a, c)).2.2 ∧ LK y 25 N (pks N a d (l, tk1 T0 a, c)).1 ∧ Fr [11, 12, 25] μ y) (by
    rintro k ⟨w, z5, ξ⟩ ⟨s, h1, h2, h3, h4, h5, h6, h7, h8, h9⟩
    dsimp only at h1 h3 h4 h5 h9
    subst h1
    cases k with
    | zero =>
      left
      have e8 : s = pks N a d (l, tk1 T0 a, c) := h8
      refine ⟨ξ, ?_, e8 ▸ h3, e8 ▸ h4, h9⟩
      simp (disch := omega) only [bX6_buildSimple_40, wr_id, if_neg]
    | succ k =>
      right
      have e0 : rd ξ 22 3 = N := (rd_cg (h9 22 (by decide)) 3).trans h0
      have hb := h7.1
      obtain ⟨q1, q2, q3, q4⟩ := pk_ok h6 ha h32 hb
      obtain ⟨hl, hl2⟩ := L0_of h6.2.1 h6.1.e0 h6.2.2.1 h32
      have hne := x_neediestBut hn (by omega) e0 h4 hl h5
      obtain ⟨ξ', p1, p2, p3, p4⟩ := x_join h3 h6.1 h4 hl ha q2 q3
      refine ⟨k, (io w (ishl 1 (ndi s.1 s.2.1 N)), (k : Int), ξ'), ?_, by omega, pk N a s, rfl, by omega, p2, p3, mk_or h5 (by omega), q1, h7.2, h8, h9.tr p4⟩
      rw [show ((k + 1 : Nat) : Int) = (k : Int) + 1 by omega]
      simp (disch := omega) only [bX6_buildSimple_40, wr_id, if_pos, if_neg, hne, Option.bind_some, p1]
      rw [show (k : Int) + 1 + -1 = (k : Int) by omega]) n d (ishl 1 a, (d : Int), μ) ⟨_, rfl, Nat.le_refl _, h, hL, mk_1 (by omega), hJ, hP, rfl, Fr.rf _ _⟩ (by omega)
  exact ⟨y, r1, r3, r4, r5⟩
theorem x_simple (hn : 5000 ≤ n) (h : GY μ 11 N c) (h0 : rd μ 22 3 = N) (h32 : S0 ≤ 32) (hL : LK μ 25 N l) (hJ : JJ N S0 l c) (hG : GS N 2 8 l c) : ∃ μ', fX6_buildSimple n 22 11 μ = some μ' ∧ GY μ' 11 N (GR N 2 8 l c) ∧ Fr [11, 12, 25] μ μ' := by
  have hN := hJ.1.N
  obtain ⟨y, r1, ν, r2, r3, r4⟩ := lp_inv (f := fun x : Int × qMu => bX6_buildSimple_2 n 22 11 x.1 x.2) (fun k x => x.1 = 8 - (k : Int) ∧ k ≤ 8 ∧ ∃ l1 c1, GY x.2 11 N c1 ∧ LK x.2 25 N l1 ∧ JJ N S0 l1 c1 ∧ GS N 2 k l1 c1 ∧ GR N 2 k l1 c1 = GR N 2 8 l c ∧ Fr [11, 12, 25] μ x.2) (fun y => ∃ ν, (y = .inl ν ∨ y = .inr ν) ∧ GY ν 11 N (GR N 2 8 l c) ∧ Fr [11, 12, 25] μ ν) (by
    rintro k ⟨z, ξ⟩ ⟨h1, h2, l1, c1, h3, h4, h6, h7, h8, h9⟩
    dsimp only at h1 h3 h4 h9
    obtain ⟨hl, hl2⟩ := L0_of h6.2.1 h6.1.e0 h6.2.2 h32
    have e0 : rd ξ 22 3 = N := (rd_cg (h9 22 (by decide)) 3).trans h0
    have hne : fX6_neediestBut n 22 0 ξ = some (ndi l1 T0 N) := x_neediestBut hn (by omega) e0 h4 hl mk_0
    cases k with
    | zero =>
      left
      refine ⟨.inl ξ, ?_, ξ, Or.inl rfl, ?_, h9⟩
      · simp (disch := omega) only [bX6_buildSimple_2, wr_id, if_neg]
      · rw [← h8]
        exact h3
    | succ k =>
      by_cases q : ndi l1 T0 N = -1
      · left
        rw [GR_e q] at h8
        refine ⟨.inr ξ, ?_, ξ, Or.inr rfl, h8 ▸ h3, h9⟩
        rw [q] at hne
        simp (disch := omega) only [bX6_buildSimple_2, wr_id, if_pos, hne, Option.bind_some, ite_true]
      · right
        rcases h7 with h7 | ⟨-, h7, h7'⟩
        · exact absurd h7 q
        · obtain ⟨g1, g2, g3⟩ := h6.ji (md := 2) (Or.inr rfl) q
          have hla := hl2 _ g1.1 g1.2
          have ec : ((cnt 2 l1 (ndi l1 T0 N) : Nat) : Int) = l1 (ndi l1 T0 N) := by
            unfold cnt
            rw [if_neg (by omega)]
            omega
          have hle := PS_le g1 h32 _ _ g3 h7
          have hT : 0 ≤ rs (tk1 T0 (ndi l1 T0 N)) 0 N := rs_nn (fun i _ _ => by have := tk1_01 (T := T0) (fun _ => Or.inl rfl) (ndi l1 T0 N) i; omega)
          have e4 : rd ξ 25 (ndi l1 T0 N) = l1 (ndi l1 T0 N) := h4 _ g1.1 g1.2
          have em : mn (l1 (ndi l1 T0 N)) N = ((cnt 2 l1 (ndi l1 T0 N) : Nat) : Int) := by
            rw [mn_id (by omega) (by omega), ec]
            have hle' : rs (tk1 T0 (ndi l1 T0 N)) 0 N + ((cnt 2 l1 (ndi l1 T0 N) : Nat) : Int) ≤ N := hle
            exact if_neg (by omega)
          obtain ⟨ξ1, p1, p2, p3, p4⟩ := x_simpleRound hn h3 e0 h32 h4 g1 g3 h7 (by omega) z
          refine ⟨k, (z + 1, ξ1), ?_, by omega, by dsimp only; omega, by omega, (rnd N 2 l1 c1).1, (rnd N 2 l1 c1).2.2, p2, p3, h6.next h32 (Or.inr rfl) q h7, h7', ?_, h9.tr p4⟩
          · simp (disch := omega) only [bX6_buildSimple_2, wr_id, if_pos, if_neg, hne, Option.bind_some, qLd_in, e4, e0, em, p1]
          · rw [← h8]
            exact (if_neg q).symm) n 8 (0, μ) ⟨rfl, Nat.le_refl _, l, c, h, hL, hJ, hG, rfl, Fr.rf _ _⟩ (by omega)
  refine ⟨ν, ?_, r3, r4⟩
  simp only [fX6_buildSimple, r1, Option.bind_some]
  rcases r2 with rfl | rfl <;> rfl
end PIC
