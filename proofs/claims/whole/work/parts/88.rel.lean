/-! BOTH SIDES IN STEP: the relation, heads of methods, ends of the law's cases -/
def FD (μ : qMu) : Prop := ∃ F b, BX μ F b ∧ BM μ F b ∧ (0 ≤ F ∧ F ≤ 400) ∧ ∀ i, 0 ≤ i → i < F → 0 ≤ b i ∧ b i ≤ 255
def OU (μ : qMu) : Prop := ∃ w, XW μ w ∧ MW μ w ∧ WR w ∧ w.1 ≤ 64
def RR (μ : qMu) (e : qEn) (p h : Nat) (E : Nat → qEn) : Prop := EV e ∧ CX μ e ∧ CM μ e ∧ HX μ p h E ∧ HM μ h E ∧ (∀ j, j < h → EV (E j)) ∧ FD μ ∧ (rd μ 1 7 = rd μ 78 7 ∧ rd μ 1 8 = rd μ 78 8) ∧ OU μ
def RQ (μ : qMu) : Prop := ∃ e p h E, RR μ e p h E
theorem FD.kp {μ μ' : qMu} (H : FD μ) (h1 : rd μ' 1 5 = rd μ 1 5) (h2 : μ' 2 = μ 2) (h3 : rd μ' 78 6 = rd μ 78 6) (h4 : μ' 82 = μ 82) : FD μ' := by
  obtain ⟨F, b, a1, a2, a3⟩ := H
  exact ⟨F, b, ⟨h1.trans a1.1, fun i i1 i2 => by rw [rd_cg h2]; exact a1.2 i i1 i2⟩, ⟨h3.trans a2.1, fun i i1 i2 => (rd_cg h4 i).trans (a2.2 i i1 i2)⟩, a3⟩
theorem OU.kp {μ μ' : qMu} (H : OU μ) (h1 : μ' 76 = μ 76) (h2 : μ' 77 = μ 77) (h3 : rd μ' 78 26 = rd μ 78 26) (h4 : μ' 91 = μ 91) : OU μ' := by
  obtain ⟨w, a1, a2, a3⟩ := H
  exact ⟨w, ⟨(rd_cg h1 1).trans a1.1, fun i i1 i2 => (rd_cg h2 i).trans (a1.2 i i1 i2)⟩, ⟨h3.trans a2.1, fun i i1 i2 => (rd_cg h4 i).trans (a2.2 i i1 i2)⟩, a3⟩
/-- a query changes nothing but rows of its own, and what was thrown -/
def FQ (μ μ' : qMu) : Prop := Fr [15, 16, 17, 18, 19, 20, 21, 22, 23, 24, 25, 26, 27, 28, 29, 30, 31, 78, 79, 80, 84, 85, 86, 87, 88, 89, 90, 92] μ μ' ∧ ∀ i, i ≠ 4 → rd μ' 78 i = rd μ 78 i
theorem FQ.rf (μ : qMu) : FQ μ μ := ⟨Fr.rf _ _, fun _ _ => rfl⟩
theorem FQ.tr {μ1 μ2 μ3 : qMu} (h1 : FQ μ1 μ2) (h2 : FQ μ2 μ3) : FQ μ1 μ3 := ⟨h1.1.tr h2.1, fun i hi => (h2.2 i hi).trans (h1.2 i hi)⟩
theorem Fr.q {l : List Nat} {μ μ' : qMu} (h : Fr l μ μ') (hl : (78 : Nat) ∉ l ∧ ∀ a ∈ l, a ∈ [15, 16, 17, 18, 19, 20, 21, 22, 23, 24, 25, 26, 27, 28, 29, 30, 31, 78, 79, 80, 84, 85, 86, 87, 88, 89, 90, 92]) : FQ μ μ' := ⟨h.wk hl.2, fun i _ => rd_cg (h 78 hl.1) i⟩
theorem FQ.t4 (μ : qMu) (v : Int) : FQ μ (up μ 78 4 v) := ⟨Fr.up (by decide), fun _ hi => rd_ni hi⟩
theorem FQ.s {μ μ' : qMu} (h : FQ μ μ') : μ' 1001000 = μ 1001000 := h.1 1001000 (by decide)
theorem FQ.cx {μ μ' : qMu} {e : qEn} (h : FQ μ μ') (hC : CX μ e) : CX μ' e := hC.kp (rd_cg (h.1 0 (by decide)) 11) (h.1 11 (by decide)) (h.1 12 (by decide)) (h.1 13 (by decide)) (h.1 14 (by decide))
theorem mem_q {a : Nat} (h : a = 32 ∨ (35 ≤ a ∧ a ≤ 75)) : a ∉ [15, 16, 17, 18, 19, 20, 21, 22, 23, 24, 25, 26, 27, 28, 29, 30, 31, 78, 79, 80, 84, 85, 86, 87, 88, 89, 90, 92] := by
  simp only [List.mem_cons, List.not_mem_nil, or_false]
  omega
theorem RR.q {μ μ' : qMu} {e : qEn} {p h : Nat} {E : Nat → qEn} (H : RR μ e p h E) (f : FQ μ μ') (hC : CM μ' e) : RR μ' e p h E := by
  obtain ⟨h1, h2, h3, h4, h5, h6, h7, h8, h9⟩ := H
  refine ⟨h1, f.cx h2, hC, h4.kp (f.1 32 (mem_q (Or.inl rfl))) (fun a a1 a2 => f.1 a (mem_q (Or.inr ⟨a1, a2⟩))), h5.kp (f.2 3 (by decide)) (f.1 81 (by decide)), h6, h7.kp (rd_cg (f.1 1 (by decide)) 5) (f.1 2 (by decide)) (f.2 6 (by decide)) (f.1 82 (by decide)), ⟨?_, ?_⟩, h9.kp (f.1 76 (by decide)) (f.1 77 (by decide)) (f.2 26 (by decide)) (f.1 91 (by decide))⟩
  · rw [rd_cg (f.1 1 (by decide)), f.2 7 (by decide)]
    exact h8.1
  · rw [rd_cg (f.1 1 (by decide)), f.2 8 (by decide)]
    exact h8.2
theorem RR.qx {μ μ' : qMu} {e : qEn} {p h : Nat} {E : Nat → qEn} (H : RR μ e p h E) (f : FQ μ μ') (h79 : μ' 79 = μ 79) : RR μ' e p h E := H.q f (H.2.2.1.kp h79)
def I32 (x : Int) : Prop := -2147483648 ≤ x ∧ x ≤ 2147483647
section HDS
variable {μ : qMu} {n : Nat} {e : qEn}
theorem I32.w {x : Int} (h : I32 x) : wr x = x := wr_id h.1 h.2
theorem x_cv (hC : CX μ e) (hE : EV e) {p : Int} (hp : I32 p) : fX9_checkVertex p μ = some (if 0 ≤ p ∧ p < e.1 then .inl 0 else .inr 0) := by
  have hN := hE.1.N
  have h1 : fX1_vertexCount 11 μ = some e.1 := congrArg some hC.1.1.1
  unfold I32 at hp
  by_cases q1 : p < 0
  · rw [if_neg (by omega)]
    simp (disch := omega) only [ite_true, fX9_checkVertex, wr_id, if_pos]
  · by_cases q2 : p < e.1
    · rw [if_pos (by omega)]
      simp (disch := omega) only [ite_true, fX9_checkVertex, wr_id, if_pos, if_neg, h1, Option.bind_some]
    · rw [if_neg (by omega)]
      simp (disch := omega) only [ite_true, fX9_checkVertex, wr_id, if_neg, h1, Option.bind_some]
theorem m_isInG {x lo hi : Int} (hx : I32 x) (hl : I32 lo) (hh : I32 hi) : fX10_isIn x lo hi μ = some (if lo ≤ x ∧ x ≤ hi then 1 else 0) := by
  unfold I32 at hx hl hh
  by_cases c2 : x < lo
  · rw [if_neg (by omega)]
    simp (disch := omega) only [ite_true, fX10_isIn, wr_id, if_pos]
  · by_cases c3 : hi < x
    · rw [if_neg (by omega)]
      simp (disch := omega) only [ite_true, fX10_isIn, wr_id, if_pos, if_neg]
    · rw [if_pos (by omega)]
      simp (disch := omega) only [ite_true, fX10_isIn, wr_id, if_neg]
theorem qbl_ite {c : Prop} {i : Decidable c} : qbl (@ite _ c i 1 0) = some (@ite _ c i 1 0) := by
  by_cases h : c
  · rw [if_pos h]
    rfl
  · rw [if_neg h]
    rfl
theorem qbl_ite' {c : Prop} {i : Decidable c} : qbl (@ite _ c i 0 1) = some (@ite _ c i 0 1) := by
  by_cases h : c
  · rw [if_pos h]
    rfl
  · rw [if_neg h]
    rfl
theorem wr_b {c : Prop} {i : Decidable c} : (wr (@ite _ c i 1 0) = 0) ↔ ¬ c := by
  by_cases h : c
  · rw [if_pos h]
    exact ⟨fun q => absurd q n1w, fun q => absurd h q⟩
  · rw [if_neg h]
    exact ⟨fun _ => h, fun _ => rfl⟩
theorem m_iv (hC : CM μ e) (hE : EV e) {p : Int} (hp : I32 p) : fX10_isVertex p μ = some (if 0 ≤ p ∧ p < e.1 then 1 else 0) := by
  have hN := hE.1.N
  have e0 : rd μ 79 0 = e.1 := hC.1
  have h1 := m_isInG (μ := μ) (lo := 0) (hi := e.1 - 1) hp (by unfold I32; omega) (by unfold I32; omega)
  have e1 : (0 ≤ p ∧ p ≤ e.1 - 1) ↔ (0 ≤ p ∧ p < e.1) := by omega
  simp only [e1] at h1
  unfold fX10_isVertex
  rw [qLd_in (by omega), obs, e0, h1, obs, qbl_ite]
  rfl
theorem m_av (hC : CM μ e) (hE : EV e) {p q : Int} (hp : I32 p) (hq : I32 q) : fX10_areVertices p q μ = some (if (0 ≤ p ∧ p < e.1) ∧ (0 ≤ q ∧ q < e.1) then 1 else 0) := by
  unfold fX10_areVertices
  rw [m_iv hC hE hp, obs]
  by_cases c1 : 0 ≤ p ∧ p < e.1
  · rw [if_pos c1, if_neg (show ¬ wr 1 = 0 by decide), m_iv hC hE hq, obs]
    by_cases c2 : 0 ≤ q ∧ q < e.1
    · rw [if_pos c2, if_neg (show ¬ wr 1 = 0 by decide), if_pos ⟨c1, c2⟩]
    · rw [if_neg c2, if_pos (show wr 0 = 0 from rfl), if_neg (fun z => c2 z.2)]
  · rw [if_neg c1, if_pos (show wr 0 = 0 from rfl), if_neg (fun z => c1 z.1)]
theorem m_good1 {b : Int} (hb : b = 1) : fX10_good b μ = some (1, up μ 78 4 0) := by
  subst hb
  rfl
theorem m_good0 {b : Int} (hb : b = 0) : fX10_good b μ = some (0, up μ 78 4 1) := by
  subst hb
  rfl
theorem rd4 {v : Int} : rd (up μ 78 4 v) 78 4 = wr v := rd_at
/-- the exception told: by two conditions in order -/
theorem m_good3 {a b c : Int} (ha : a = 0 ∨ a = 1) (hb : b = 0 ∨ b = 1) (hc : c = 0 ∨ c = 1) : ∃ μ', fX10_good__ a b c μ = some (if a = 1 ∧ b = 1 ∧ c = 1 then 1 else 0, μ') ∧ Fo 78 [4] μ μ' ∧ rd μ' 78 4 = if a = 0 then 1 else if b = 0 then 2 else if c = 0 then 3 else 0 := by
  have k0 : Fo 78 [4] μ (up μ 78 4 0) := Fo.up (by simp)
  have k1 : ∀ v, Fo 78 [4] μ (up (up μ 78 4 0) 78 4 v) := fun v => k0.tr (Fo.up (by simp))
  have r1 : ∀ v, rd (up (up μ 78 4 0) 78 4 v) 78 4 = wr v := fun v => rd_at
  rcases ha with rfl | rfl
  · refine ⟨up (up μ 78 4 0) 78 4 1, ?_, k1 1, r1 1⟩
    unfold fX10_good__
    rw [qPf_eq, obs, if_pos (show wr 0 = 0 from rfl), qPf_eq, obs, obs, r1, if_neg (show ¬ wr (wr 1) = 0 by decide)]
    rfl
  · rcases hb with rfl | rfl
    · refine ⟨up (up μ 78 4 0) 78 4 2, ?_, k1 2, r1 2⟩
      unfold fX10_good__
      rw [qPf_eq, obs, if_neg (show ¬ wr 1 = 0 by decide), if_pos (show wr 0 = 0 from rfl), qPf_eq, obs, obs, r1, if_neg (show ¬ wr (wr 2) = 0 by decide)]
      rfl
    · rcases hc with rfl | rfl
      · refine ⟨up (up μ 78 4 0) 78 4 3, ?_, k1 3, r1 3⟩
        unfold fX10_good__
        rw [qPf_eq, obs, if_neg (show ¬ wr 1 = 0 by decide), if_neg (show ¬ wr 1 = 0 by decide), if_pos (show wr 0 = 0 from rfl), qPf_eq, obs, obs, r1, if_neg (show ¬ wr (wr 3) = 0 by decide)]
        rfl
      · refine ⟨up μ 78 4 0, ?_, k0, rd_at⟩
        unfold fX10_good__
        rw [qPf_eq, obs, if_neg (show ¬ wr 1 = 0 by decide), if_neg (show ¬ wr 1 = 0 by decide), if_neg (show ¬ wr 1 = 0 by decide), obs, rd4, if_pos (show wr (wr 0) = 0 from rfl)]
        rfl
theorem m_good2 {a b : Int} (ha : a = 0 ∨ a = 1) (hb : b = 0 ∨ b = 1) : ∃ μ', fX10_good_ a b μ = some (if a = 1 ∧ b = 1 then 1 else 0, μ') ∧ Fo 78 [4] μ μ' ∧ rd μ' 78 4 = if a = 0 then 1 else if b = 0 then 2 else 0 := by
  obtain ⟨μ', a1, a2, a3⟩ := m_good3 (μ := μ) ha hb (c := 1) (Or.inr rfl)
  refine ⟨μ', ?_, a2, ?_⟩
  · unfold fX10_good_
    rw [a1, obs]
    rcases ha with rfl | rfl <;> rcases hb with rfl | rfl <;> rfl
  · rw [a3]
    rcases ha with rfl | rfl <;> rcases hb with rfl | rfl <;> rfl
theorem Fo.q {μ' : qMu} (h : Fo 78 [4] μ μ') : FQ μ μ' := ⟨fun a ha => h.1 a (fun q => ha (by rw [q]; decide)), fun i hi => h.2 i (by simp; exact hi)⟩
end HDS
/-! what the class's method comes to, in the law: number of the exception, what is put aside -/
def lw1 (b : Int) (k : Int) (μ : qMu) : Option (Int × qMu) :=
  (fX10_thrown μ).bind fun y5 =>
  if wr y5 = wr k then
    if wr k = 0 then
      (qLd μ 92 1 0).bind fun x8 =>
      if wr (lcm x8 b) = 0 then
        some (k, μ)
      else
        none
    else
      some (k, μ)
  else
    none
theorem lcm_s (x : Int) : lcm x x = 0 := by
  unfold lcm lg_cmp
  rw [if_neg (by exact Int64.lt_irrefl), if_pos rfl]
  rfl
theorem lw1_ok {b k : Int} {μ : qMu} (ht : rd μ 78 4 = k) (hv : k = 0 → rd μ 92 0 = b) : lw1 b k μ = some (k, μ) := by
  unfold lw1 fX10_thrown
  rw [obs, ht, if_pos rfl]
  by_cases q : wr k = 0
  · rw [if_pos q, qLd_in (by omega), obs]
    have hk : k = 0 := by rw [← ht] at q ⊢; rw [wr_rd] at q; exact q
    rw [hv hk, lcm_s, if_pos (show wr 0 = 0 from rfl)]
  · rw [if_neg q]
/-- a query of the class; one of the reference -/
def FC (μ μ' : qMu) : Prop := Fr [15, 16, 17, 18, 19, 20, 21, 22, 23, 24, 25, 26, 27, 28, 29, 30, 31, 92] μ μ'
def FN (μ μ' : qMu) : Prop := Fr [78, 79, 80, 84, 85, 86, 87, 88, 89, 90] μ μ' ∧ ∀ i, i ≠ 4 → rd μ' 78 i = rd μ 78 i
theorem FC.q {μ μ' : qMu} (h : FC μ μ') : FQ μ μ' := Fr.q h (by decide)
theorem FN.q {μ μ' : qMu} (h : FN μ μ') : FQ μ μ' := ⟨h.1.wk (by decide), h.2⟩
theorem FN.tr {μ1 μ2 μ3 : qMu} (h1 : FN μ1 μ2) (h2 : FN μ2 μ3) : FN μ1 μ3 := ⟨h1.1.tr h2.1, fun i hi => (h2.2 i hi).trans (h1.2 i hi)⟩
theorem FN.t4 (μ : qMu) (v : Int) : FN μ (up μ 78 4 v) := ⟨Fr.up (by decide), fun _ hi => rd_ni hi⟩
theorem Fo.n {μ μ' : qMu} (h : Fo 78 [4] μ μ') : FN μ μ' := ⟨fun a ha => h.1 a (fun q => ha (by rw [q]; decide)), fun i hi => h.2 i (by simp; exact hi)⟩
theorem Fr.n {l : List Nat} {μ μ' : qMu} (h : Fr l μ μ') (hl : (78 : Nat) ∉ l ∧ ∀ a ∈ l, a ∈ [78, 79, 80, 84, 85, 86, 87, 88, 89, 90]) : FN μ μ' := ⟨h.wk hl.2, fun i _ => rd_cg (h 78 hl.1) i⟩
theorem RR.c {μ μ' : qMu} {e : qEn} {p h : Nat} {E : Nat → qEn} (H : RR μ e p h E) (f : FC μ μ') : RR μ' e p h E := H.qx f.q (f 79 (by decide))
theorem FC.at92 (μ : qMu) (v : Int) : FC μ (up μ 92 0 v) := Fr.up (by decide)
theorem FC.tr {μ1 μ2 μ3 : qMu} (h1 : FC μ1 μ2) (h2 : FC μ2 μ3) : FC μ1 μ3 := Fr.tr h1 h2
theorem FC.rf (μ : qMu) : FC μ μ := Fr.rf _ _
theorem Fr.c {l : List Nat} {μ μ' : qMu} (h : Fr l μ μ') (hl : ∀ a ∈ l, a ∈ [15, 16, 17, 18, 19, 20, 21, 22, 23, 24, 25, 26, 27, 28, 29, 30, 31, 92]) : FC μ μ' := h.wk hl
/-- a call that may throw, both sides -/
def JT (F : Int → Int) (fx fm : qMu → Option (Int × qMu)) (μ : qMu) : Prop := ∃ k μ1 b μ2, fx μ = some (k, μ1) ∧ fm μ1 = some (b, μ2) ∧ rd μ2 78 4 = k ∧ (k = 0 → rd μ2 92 0 = F b) ∧ RQ μ2 ∧ μ1 1001000 = μ 1001000 ∧ μ2 1001000 = μ 1001000
def LK1 (f : Option (Int × qMu)) (μ : qMu) : Prop := ∃ k μ2, f = some (k, μ2) ∧ RQ μ2 ∧ μ2 1001000 = μ 1001000
theorem JT.mk {F : Int → Int} {fx fm : qMu → Option (Int × qMu)} {μ μ1 μ2 : qMu} {e : qEn} {p h : Nat} {E : Nat → qEn} {k b : Int} (R : RR μ e p h E) (hx : fx μ = some (k, μ1)) (f1 : FC μ μ1) (hm : fm μ1 = some (b, μ2)) (f2 : FN μ1 μ2) (hC : CM μ2 e) (ht : rd μ2 78 4 = k) (hv : k = 0 → rd μ1 92 0 = F b) : JT F fx fm μ :=
  ⟨k, μ1, b, μ2, hx, hm, ht, fun q => (rd_cg (f2.1 92 (by decide)) 0).trans (hv q), ⟨e, p, h, E, (R.c f1).q f2.q hC⟩, f1.q.s, f2.q.s.trans f1.q.s⟩
section LWS
variable {μ : qMu} {Ls : Nat} {i : Int} {F : Int → Int}
theorem rd_I (μ : qMu) (a : Nat) (i : Int) : I32 (rd μ a i) := rd_r μ a i
theorem jt_0 {fx fm : qMu → Option (Int × qMu)} (h : JT F fx fm μ) : LK1 ((fx μ).bind fun y2 => (fm y2.2).bind fun y4 => lw1 (F y4.1) y2.1 y4.2) μ := by
  obtain ⟨k, μ1, b, μ2, h1, h2, h3, h4, h5, h6, h7⟩ := h
  rw [h1, obs, h2, obs]
  exact ⟨k, μ2, lw1_ok h3 h4, h5, h7⟩
theorem jt_1 {fx fm : Int → qMu → Option (Int × qMu)} (hi : 0 ≤ i ∧ i + 6 ≤ (Ls : Int)) (h : ∀ p, I32 p → JT F (fx p) (fm p) μ) : LK1 ((qLd μ 1001000 Ls (i + 1)).bind fun x1 => (fx x1 μ).bind fun y2 => (qLd y2.2 1001000 Ls (i + 1)).bind fun z1 => (fm z1 y2.2).bind fun y4 => lw1 (F y4.1) y2.1 y4.2) μ := by
  obtain ⟨k, μ1, b, μ2, h1, h2, h3, h4, h5, h6, h7⟩ := h _ (rd_I μ 1001000 (i + 1))
  rw [qLd_in (by omega), obs, h1, obs, qLd_in (by omega), obs, rd_cg h6, h2, obs]
  exact ⟨k, μ2, lw1_ok h3 h4, h5, h7⟩
theorem jt_2 {fx fm : Int → Int → qMu → Option (Int × qMu)} (hi : 0 ≤ i ∧ i + 6 ≤ (Ls : Int)) (h : ∀ p q, I32 p → I32 q → JT F (fx p q) (fm p q) μ) : LK1 ((qLd μ 1001000 Ls (i + 1)).bind fun x1 => (qLd μ 1001000 Ls (i + 2)).bind fun x2 => (fx x1 x2 μ).bind fun y2 => (qLd y2.2 1001000 Ls (i + 1)).bind fun z1 => (qLd y2.2 1001000 Ls (i + 2)).bind fun z2 => (fm z1 z2 y2.2).bind fun y4 => lw1 (F y4.1) y2.1 y4.2) μ := by
  obtain ⟨k, μ1, b, μ2, h1, h2, h3, h4, h5, h6, h7⟩ := h _ _ (rd_I μ 1001000 (i + 1)) (rd_I μ 1001000 (i + 2))
  rw [qLd_in (by omega), obs, qLd_in (by omega), obs, h1, obs, qLd_in (by omega), obs, qLd_in (by omega), obs, rd_cg h6, rd_cg h6, h2, obs]
  exact ⟨k, μ2, lw1_ok h3 h4, h5, h7⟩
theorem jt_3 {fx fm : Int → Int → Int → qMu → Option (Int × qMu)} (hi : 0 ≤ i ∧ i + 6 ≤ (Ls : Int)) (h : ∀ p q r, I32 p → I32 q → I32 r → JT F (fx p q r) (fm p q r) μ) : LK1 ((qLd μ 1001000 Ls (i + 1)).bind fun x1 => (qLd μ 1001000 Ls (i + 2)).bind fun x2 => (qLd μ 1001000 Ls (i + 3)).bind fun x3 => (fx x1 x2 x3 μ).bind fun y2 => (qLd y2.2 1001000 Ls (i + 1)).bind fun z1 => (qLd y2.2 1001000 Ls (i + 2)).bind fun z2 => (qLd y2.2 1001000 Ls (i + 3)).bind fun z3 => (fm z1 z2 z3 y2.2).bind fun y4 => lw1 (F y4.1) y2.1 y4.2) μ := by
  obtain ⟨k, μ1, b, μ2, h1, h2, h3, h4, h5, h6, h7⟩ := h _ _ _ (rd_I μ 1001000 (i + 1)) (rd_I μ 1001000 (i + 2)) (rd_I μ 1001000 (i + 3))
  rw [qLd_in (by omega), obs, qLd_in (by omega), obs, qLd_in (by omega), obs, h1, obs, qLd_in (by omega), obs, qLd_in (by omega), obs, qLd_in (by omega), obs, rd_cg h6, rd_cg h6, rd_cg h6, h2, obs]
  exact ⟨k, μ2, lw1_ok h3 h4, h5, h7⟩
theorem jt_4 {fx fm : Int → Int → Int → Int → qMu → Option (Int × qMu)} (hi : 0 ≤ i ∧ i + 6 ≤ (Ls : Int)) (h : ∀ p q r s, I32 p → I32 q → I32 r → I32 s → JT F (fx p q r s) (fm p q r s) μ) : LK1 ((qLd μ 1001000 Ls (i + 1)).bind fun x1 => (qLd μ 1001000 Ls (i + 2)).bind fun x2 => (qLd μ 1001000 Ls (i + 3)).bind fun x3 => (qLd μ 1001000 Ls (i + 4)).bind fun x4 => (fx x1 x2 x3 x4 μ).bind fun y2 => (qLd y2.2 1001000 Ls (i + 1)).bind fun z1 => (qLd y2.2 1001000 Ls (i + 2)).bind fun z2 => (qLd y2.2 1001000 Ls (i + 3)).bind fun z3 => (qLd y2.2 1001000 Ls (i + 4)).bind fun z4 => (fm z1 z2 z3 z4 y2.2).bind fun y4 => lw1 (F y4.1) y2.1 y4.2) μ := by
  obtain ⟨k, μ1, b, μ2, h1, h2, h3, h4, h5, h6, h7⟩ := h _ _ _ _ (rd_I μ 1001000 (i + 1)) (rd_I μ 1001000 (i + 2)) (rd_I μ 1001000 (i + 3)) (rd_I μ 1001000 (i + 4))
  rw [qLd_in (by omega), obs, qLd_in (by omega), obs, qLd_in (by omega), obs, qLd_in (by omega), obs, h1, obs, qLd_in (by omega), obs, qLd_in (by omega), obs, qLd_in (by omega), obs, qLd_in (by omega), obs, rd_cg h6, rd_cg h6, rd_cg h6, rd_cg h6, h2, obs]
  exact ⟨k, μ2, lw1_ok h3 h4, h5, h7⟩
end LWS
