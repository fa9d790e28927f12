/-! STATEMENTS of the text: what they are, and the class's -/
def FX (μ μ' : qMu) : Prop := Fr [1, 3, 4, 5, 6, 7, 8, 9, 10] μ μ' ∧ rd μ' 1 5 = rd μ 1 5 ∧ rd μ' 1 6 = rd μ 1 6
theorem FX.rf (μ : qMu) : FX μ μ := ⟨Fr.rf _ _, rfl, rfl⟩
theorem FX.tr {μ1 μ2 μ3 : qMu} (h1 : FX μ1 μ2) (h2 : FX μ2 μ3) : FX μ1 μ3 := ⟨h1.1.tr h2.1, h2.2.1.trans h1.2.1, h2.2.2.trans h1.2.2⟩
theorem Fo.fx {l : List Int} {μ μ' : qMu} (h : Fo 1 l μ μ') (h5 : (5 : Int) ∉ l) (h6 : (6 : Int) ∉ l) : FX μ μ' := ⟨fun a ha => h.1 a (fun q => ha (by rw [q]; decide)), h.2 5 h5, h.2 6 h6⟩
theorem Fr.fx {l : List Nat} {μ μ' : qMu} (h : Fr l μ μ') (hl : ∀ a ∈ l, a ∈ [3, 4, 5, 6, 7, 8, 9, 10]) : FX μ μ' := by
  have h1 : (1 : Nat) ∉ l := fun q => by
    have := hl 1 q
    revert this
    decide
  exact ⟨h.wk (fun a ha => List.mem_cons_of_mem _ (hl a ha)), rd_cg (h 1 h1) 5, rd_cg (h 1 h1) 6⟩
theorem TX.fx {μ μ' : qMu} {b : Int → Int} {e : Int} (h : TX μ b e) (f : FX μ μ') : TX μ' b e := ⟨f.2.2.trans h.1, fun i i1 i2 => by rw [rd_cg (f.1 2 (by decide))]; exact h.2 i i1 i2⟩
theorem KX.kp {μ μ' : qMu} {b : Int → Int} {e s : Int} (h : KX μ b e s) (f : μ' 1 = μ 1) : KX μ' b e s := by
  obtain ⟨h1, h2, h3, h4⟩ := h
  exact ⟨(rd_cg f 10).trans h1, (rd_cg f 11).trans h2, (rd_cg f 9).trans h3, fun q => (rd_cg f 12).trans (h4 q)⟩
theorem KX.kf {μ μ' : qMu} {b : Int → Int} {e s : Int} {l : List Int} (h : KX μ b e s) (f : Fo 1 l μ μ') (hl : (9 : Int) ∉ l ∧ (10 : Int) ∉ l ∧ (11 : Int) ∉ l ∧ (12 : Int) ∉ l) : KX μ' b e s := by
  obtain ⟨h1, h2, h3, h4⟩ := h
  exact ⟨(f.2 10 hl.2.1).trans h1, (f.2 11 hl.2.2.1).trans h2, (f.2 9 hl.1).trans h3, fun q => (f.2 12 hl.2.2.2).trans (h4 q)⟩
theorem XE.kp {μ μ' : qMu} {p : Int × Int} (h : XE μ p) (f : μ' 1 = μ 1) : XE μ' p := ⟨(rd_cg f 7).trans h.1, (rd_cg f 8).trans h.2⟩
theorem XE.kf {μ μ' : qMu} {p : Int × Int} {l : List Int} (h : XE μ p) (f : Fo 1 l μ μ') (hl : (7 : Int) ∉ l ∧ (8 : Int) ∉ l) : XE μ' p := ⟨(f.2 7 hl.1).trans h.1, (f.2 8 hl.2).trans h.2⟩
abbrev pO : Type := (Int × Int) ⊕ (Int × qEn)
def PX (μ : qMu) (b : Int → Int) (e s : Int) (st : qEn) : Prop := TX μ b e ∧ KX μ b e s ∧ GY μ 3 st.1 st.2.2.1 ∧ GY μ 5 st.1 st.2.2.2 ∧ rd μ 1 4 = st.2.1 ∧ XE μ (0, -1)
/-- what a statement of the class comes to -/
def XO (o : pO) (b : Int → Int) (e : Int) (μ : qMu) (r : Option (Int × qMu)) : Prop := ∃ μ', FX μ μ' ∧ ((∃ p, o = .inl p ∧ r = some (0, μ') ∧ XE μ' p) ∨ ∃ s st, o = .inr (s, st) ∧ r = some (1, μ') ∧ PX μ' b e s st)
def pbd {α β : Type} (x : (Int × Int) ⊕ α) (f : α → (Int × Int) ⊕ β) : (Int × Int) ⊕ β := match x with
  | .inl p => .inl p
  | .inr a => f a
def pcl (b : Int → Int) (e : Int) (o : pO) : pO := pbd o fun x => if tkK b e x.1 = 3 then .inr x else .inl (er b e x.1 2)
def zc : Int → Int → Int := fun _ _ => 0
def pver (b : Int → Int) (e s : Int) : pO := pbd (pnum b e (nx b e s) 1 8) fun v => .inr (nx b e (nx b e s), v, 0, zc, zc)
def pmod (b : Int → Int) (e s : Int) (st : qEn) : pO := pbd (pnum b e (nx b e s) 0 2) fun v => .inr (nx b e (nx b e s), st.1, v, st.2.2.1, st.2.2.2)
def cT (T : Int) (st : qEn) : Int → Int → Int := if T = 2 then st.2.2.1 else st.2.2.2
def ste (T : Int) (st : qEn) (u v k : Int) : qEn := (st.1, st.2.1, if T = 2 then addc st.2.2.1 u v k else st.2.2.1, if T = 2 then st.2.2.2 else addc st.2.2.2 u v k)
def pedg (b : Int → Int) (e : Int) (T : Int) (s : Int) (st : qEn) : pO :=
  pbd (pnum b e (nx b e s) 0 (st.1 - 1)) fun u =>
  pbd (pnum b e (nx b e (nx b e s)) 0 (st.1 - 1)) fun v =>
  if tkK b e (nx b e (nx b e (nx b e s))) = 2 then
    pbd (pnum b e (nx b e (nx b e (nx b e s))) 1 9) fun k => if 16 < Ed (cT T st) + k then .inl (er b e (nx b e (nx b e (nx b e s))) 5) else .inr (nx b e (nx b e (nx b e (nx b e s))), ste T st u v k)
  else if tkK b e (nx b e (nx b e (nx b e s))) = 3 then (if 16 < Ed (cT T st) + 1 then .inl (er b e (nx b e (nx b e (nx b e s))) 5) else .inr (nx b e (nx b e (nx b e s)), ste T st u v 1))
  else .inl (er b e (nx b e (nx b e (nx b e s))) 2)
section STX
variable {μ μ1 : qMu} {n : Nat} {b : Int → Int} {e s : Int} {st : qEn}
theorem XO.fail {o : pO} {p : Int × Int} {r : Option (Int × qMu)} (f : FX μ μ1) (ho : o = .inl p) (hr : r = some (0, μ1)) (h : XE μ1 p) : XO o b e μ r := ⟨μ1, f, Or.inl ⟨p, ho, hr, h⟩⟩
theorem x_end (hb : TB b e) (hs : 0 ≤ s ∧ s ≤ e) (f : FX μ μ1) (hP : PX μ1 b e s st) : XO (pcl b e (.inr (s, st))) b e μ ((fX5_expectSemicolon μ1).bind fun y6 => (qbl y6.1).bind fun x7 => some (x7, y6.2)) := by
  have h1 := hb.1
  rcases x_semi hP.2.1 (by omega) with ⟨c1, a1⟩ | ⟨c1, μ2, a1, a2, a3⟩
  · rw [a1]
    exact ⟨μ1, f, Or.inr ⟨s, st, if_pos c1, rfl, hP⟩⟩
  · rw [a1]
    exact XO.fail (f.tr (a3.fx (by decide) (by decide))) (if_neg c1) rfl a2
theorem x_begin (hn : 5000 ≤ n) {v : Int} (hv : 0 ≤ v ∧ v ≤ 8) : ∃ μ', fX5_begin n v μ = some μ' ∧ GY μ' 3 v zc ∧ GY μ' 5 v zc ∧ Fr [3, 4, 5, 6] μ μ' := by
  obtain ⟨μ1, a1, a2, a3⟩ := x_clear (μ := μ) (g := 3) hn hv
  obtain ⟨μ2, b1, b2, b3⟩ := x_clear (μ := μ1) (g := 5) hn hv
  refine ⟨μ2, ?_, a2.kp (b3 3 (by decide)) (b3 4 (by decide)), b2, (a3.wk (by simp)).tr (b3.wk (by simp))⟩
  simp only [fX5_begin, a1, b1, Option.bind_some]
theorem x_adv (hn : 5000 ≤ n) (hb : TB b e) (hT : TX μ b e) (hs : 0 ≤ s ∧ s ≤ e) (hK : KX μ b e s) : ∃ μ', fX5_advance n μ = some μ' ∧ KX μ' b e (nx b e s) ∧ Fo 1 [9, 10, 11, 12] μ μ' := by
  have hE := tkE_r (b := b) hs
  exact x_advance hn hT hb (p := tkE b e s) (by omega) hK.2.1
theorem PX.ad (hP : PX μ b e s st) {s' : Int} (hK : KX μ1 b e s') (f : Fo 1 [9, 10, 11, 12] μ μ1) : PX μ1 b e s' st := by
  obtain ⟨h1, -, h3, h4, h5, h6⟩ := hP
  exact ⟨h1.kp f (by decide), hK, h3.kp (f.1 3 (by decide)) (f.1 4 (by decide)), h4.kp (f.1 5 (by decide)) (f.1 6 (by decide)), (f.2 4 (by decide)).trans h5, h6.kf f (by decide)⟩
theorem x_ver (hn : 5000 ≤ n) (hb : TB b e) (hT : TX μ b e) (hs : 0 ≤ s ∧ s ≤ e) (hK : KX μ b e s) (h4 : rd μ 1 4 = 0) (hX : XE μ (0, -1)) : XO (pcl b e (pver b e s)) b e μ (fX5_readVertices n μ) := by
  have h1 := hb.1
  have n1 := (nx_r (b := b) hs).1
  have n2 := (nx_r (b := b) n1).1
  obtain ⟨μ1, a1, a2, a3⟩ := x_adv hn hb hT hs hK
  have f1 : FX μ μ1 := a3.fx (by decide) (by decide)
  rcases x_expN hb n1 a2 (lo := 1) (hi := 8) (by omega) (by omega) with ⟨p, μ2, b1, b2, b3, b4⟩ | ⟨b1, b2, b3, b4⟩
  · refine XO.fail (f1.tr (b4.fx (by decide) (by decide))) (p := p) ?_ ?_ b3
    · simp only [pver, b1, pbd, pcl]
    · simp (disch := omega) only [ite_true, fX5_readVertices, a1, b2, Option.bind_some, wr_id, if_pos]
  · obtain ⟨μ2, d1, d2, d3, d4⟩ := x_begin (μ := μ1) hn (v := tkV b e (nx b e s)) (by omega)
    have f2 : FX μ μ2 := f1.tr (d4.fx (by decide))
    obtain ⟨μ3, g1, g2, g3⟩ := x_adv hn hb (hT.fx f2) n1 (a2.kp (d4 1 (by decide)))
    have f3 : FX μ μ3 := f2.tr (g3.fx (by decide) (by decide))
    have e1 : fX5_readVertices n μ = (fX5_expectSemicolon μ3).bind fun y6 => (qbl y6.1).bind fun x7 => some (x7, y6.2) := by
      simp (disch := omega) only [ite_true, fX5_readVertices, a1, b3, b4, d1, g1, Option.bind_some, wr_id, if_neg]
    have e2 : pver b e s = .inr (nx b e (nx b e s), tkV b e (nx b e s), 0, zc, zc) := by
      simp only [pver, b1, pbd]
    rw [e1, e2]
    refine x_end hb n2 f3 ⟨hT.fx f3, g2, d2.kp (g3.1 3 (by decide)) (g3.1 4 (by decide)), d3.kp (g3.1 5 (by decide)) (g3.1 6 (by decide)), ?_, ((hX.kf a3 (by decide)).kp (d4 1 (by decide))).kf g3 (by decide)⟩
    rw [g3.2 4 (by decide), rd_cg (d4 1 (by decide)), a3.2 4 (by decide)]
    exact h4
theorem x_mod (hn : 5000 ≤ n) (hb : TB b e) (hs : 0 ≤ s ∧ s ≤ e) (hP : PX μ b e s st) : XO (pcl b e (pmod b e s st)) b e μ (fX5_readModeNumber n μ) := by
  have h1 := hb.1
  have n1 := (nx_r (b := b) hs).1
  have n2 := (nx_r (b := b) n1).1
  obtain ⟨μ1, a1, a2, a3⟩ := x_adv hn hb hP.1 hs hP.2.1
  have p1 := hP.ad a2 a3
  have f1 : FX μ μ1 := a3.fx (by decide) (by decide)
  rcases x_expN hb n1 a2 (lo := 0) (hi := 2) (by omega) (by omega) with ⟨p, μ2, b1, b2, b3, b4⟩ | ⟨b1, b2, b3, b4⟩
  · refine XO.fail (f1.tr (b4.fx (by decide) (by decide))) (p := p) ?_ ?_ b3
    · simp only [pmod, b1, pbd, pcl]
    · simp (disch := omega) only [ite_true, fX5_readModeNumber, a1, b2, Option.bind_some, wr_id, if_pos]
  · have d4 : Fo 1 [4] μ1 (up μ1 1 4 (tkV b e (nx b e s))) := Fo.up (by simp)
    have f2 : FX μ (up μ1 1 4 (tkV b e (nx b e s))) := f1.tr (d4.fx (by decide) (by decide))
    obtain ⟨μ3, g1, g2, g3⟩ := x_adv hn hb (hP.1.fx f2) n1 (a2.kf d4 (by decide))
    have f3 : FX μ μ3 := f2.tr (g3.fx (by decide) (by decide))
    have e1 : fX5_readModeNumber n μ = (fX5_expectSemicolon μ3).bind fun y6 => (qbl y6.1).bind fun x7 => some (x7, y6.2) := by
      simp (disch := omega) only [ite_true, fX5_readModeNumber, a1, b3, b4, qPf_eq, g1, Option.bind_some, wr_id, if_neg]
    have e2 : pmod b e s st = .inr (nx b e (nx b e s), st.1, tkV b e (nx b e s), st.2.2.1, st.2.2.2) := by
      simp only [pmod, b1, pbd]
    rw [e1, e2]
    have q3 : ∀ x, x ≠ 1 → μ3 x = μ1 x := fun x hx => (g3.1 x hx).trans (d4.1 x hx)
    refine x_end hb n2 f3 ⟨hP.1.fx f3, g2, p1.2.2.1.kp (q3 3 (by decide)) (q3 4 (by decide)), p1.2.2.2.1.kp (q3 5 (by decide)) (q3 6 (by decide)), ?_, (p1.2.2.2.2.2.kf d4 (by decide)).kf g3 (by decide)⟩
    rw [g3.2 4 (by decide), rd_at]
    exact wr_id (by omega) (by omega)
theorem Vd.morek {N : Int} {c : Int → Int → Int} {u v k : Int} (hV : Vd N c) (ha : 0 ≤ u ∧ u < N) (hb : 0 ≤ v ∧ v < N) (hk : 0 ≤ k) (hE : Ed c + k ≤ 16) : Vd N (addc c u v k) := by
  have hN := hV.N
  refine ⟨hN, fun i j => ?_, fun i j => addc_sy hV.2.2.1 u v k i j, fun i j hij => ?_, ?_⟩
  · rw [addc_pl]
    have := hV.2.1 i j
    split <;> omega
  · rw [addc_pl] at hij
    by_cases q : (i = u ∧ j = v) ∨ (i = v ∧ j = u)
    · omega
    · rw [if_neg q] at hij
      exact hV.2.2.2.1 i j (by omega)
  · rw [Ed_addc (by omega) (by omega)]
    exact hE
theorem ste_ev {T u v k : Int} (hE : EV st) (hu : 0 ≤ u ∧ u < st.1) (hv : 0 ≤ v ∧ v < st.1) (hk : 0 ≤ k) (h16 : ¬ 16 < Ed (cT T st) + k) : EV (ste T st u v k) := by
  obtain ⟨h1, h2, h3, h4⟩ := hE
  unfold cT at h16
  by_cases q : T = 2
  · rw [if_pos q] at h16
    refine ⟨?_, ?_, h3, h4⟩
    · show Vd st.1 (if T = 2 then addc st.2.2.1 u v k else st.2.2.1)
      rw [if_pos q]
      exact h1.morek hu hv hk (by omega)
    · show Vd st.1 (if T = 2 then st.2.2.2 else addc st.2.2.2 u v k)
      rw [if_pos q]
      exact h2
  · rw [if_neg q] at h16
    refine ⟨?_, ?_, h3, h4⟩
    · show Vd st.1 (if T = 2 then addc st.2.2.1 u v k else st.2.2.1)
      rw [if_neg q]
      exact h1
    · show Vd st.1 (if T = 2 then st.2.2.2 else addc st.2.2.2 u v k)
      rw [if_neg q]
      exact h2.morek hu hv hk (by omega)
theorem x_putT {g : Nat} {T u v k : Int} (hP : PX μ b e s st) (hE : EV st) (hg : g = 3 ∧ T = 2 ∨ g = 5 ∧ T = 66) (hu : 0 ≤ u ∧ u < 8) (hv : 0 ≤ v ∧ v < 8) (hk : 0 ≤ k ∧ k ≤ 9) : fX1_edgeCount g μ = some (Ed (cT T st)) ∧ ∃ μ', fX1_put g u v k μ = some μ' ∧ PX μ' b e s (ste T st u v k) ∧ Fr [3, 4, 5, 6] μ μ' := by
  obtain ⟨h1, h2, h3, h4, h5, h6⟩ := hP
  have e1 := hE.1.2.2.2.2
  have e2 := hE.2.1.2.2.2.2
  have e3 := hE.1.e0
  have e4 := hE.2.1.e0
  rcases hg with ⟨rfl, rfl⟩ | ⟨rfl, rfl⟩
  · obtain ⟨μ', a1, a2, a3⟩ := x_put h3 hE.1.bd (by omega) hu hv (k := k) (by omega)
    refine ⟨congrArg some h3.2, μ', a1, ⟨h1.fx (a3.fx (by decide)), h2.kp (a3 1 (by decide)), a2, h4.kp (a3 5 (by decide)) (a3 6 (by decide)), (rd_cg (a3 1 (by decide)) 4).trans h5, h6.kp (a3 1 (by decide))⟩, a3.wk (by simp)⟩
  · obtain ⟨μ', a1, a2, a3⟩ := x_put h4 hE.2.1.bd (by omega) hu hv (k := k) (by omega)
    refine ⟨congrArg some h4.2, μ', a1, ⟨h1.fx (a3.fx (by decide)), h2.kp (a3 1 (by decide)), h3.kp (a3 3 (by decide)) (a3 4 (by decide)), a2, (rd_cg (a3 1 (by decide)) 4).trans h5, h6.kp (a3 1 (by decide))⟩, a3.wk (by simp)⟩
theorem n1w : ¬ wr 1 = 0 := by decide
theorem n0w : wr 0 = 0 := rfl
theorem cT_rx {T : Int} (hE : EV st) : 0 ≤ Ed (cT T st) ∧ Ed (cT T st) ≤ 16 := by
  unfold cT
  have := hE.1.e0
  have := hE.2.1.e0
  have := hE.1.2.2.2.2
  have := hE.2.1.2.2.2.2
  split <;> omega
theorem x_edge {g : Nat} {T : Int} (hn : 5000 ≤ n) (hb : TB b e) (hs : 0 ≤ s ∧ s ≤ e) (hP : PX μ b e s st) (hE : EV st) (hg : g = 3 ∧ T = 2 ∨ g = 5 ∧ T = 66) : XO (pcl b e (pedg b e T s st)) b e μ (fX5_readEdge n g μ) := by
  have h1 := hb.1
  have hN := hE.1.N
  have hEd := cT_rx (T := T) hE
  have n1 := (nx_r (b := b) hs).1
  have n2 := (nx_r (b := b) n1).1
  have n3 := (nx_r (b := b) n2).1
  have n4 := (nx_r (b := b) n3).1
  unfold pedg
  obtain ⟨μ1, a1, a2, a3⟩ := x_adv hn hb hP.1 hs hP.2.1
  have p1 := hP.ad a2 a3
  have f1 : FX μ μ1 := a3.fx (by decide) (by decide)
  generalize nx b e s = s1 at *
  have v1 : fX1_vertexCount 3 μ1 = some st.1 := congrArg some p1.2.2.1.1.1
  unfold fX5_readEdge
  rw [a1, obs, v1, obs]
  rcases x_expN hb n1 a2 (lo := 0) (hi := st.1 - 1) (by omega) (by omega) with ⟨p, μ2, b1, b2, b3, b4⟩ | ⟨b1, b2, b3, b4⟩
  · rw [b2, obs, if_pos n0w, b1]
    exact XO.fail (f1.tr (b4.fx (by decide) (by decide))) (p := p) rfl rfl b3
  · obtain ⟨μ2, d1, d2, d3⟩ := x_adv hn hb p1.1 n1 a2
    have p2 := p1.ad d2 d3
    have f2 : FX μ μ2 := f1.tr (d3.fx (by decide) (by decide))
    generalize nx b e s1 = s2 at *
    have v2 : fX1_vertexCount 3 μ2 = some st.1 := congrArg some p2.2.2.1.1.1
    rw [b4, obs, if_neg n1w, d1, obs, v2, obs, b1, b3]
    show XO (pcl b e (pbd (pnum b e s2 0 (st.1 - 1)) _)) b e μ _
    generalize tkV b e s1 = u at *
    rcases x_expN hb n2 d2 (lo := 0) (hi := st.1 - 1) (by omega) (by omega) with ⟨p, μ3, g1, g2, g3, g4⟩ | ⟨g1, g2, g3, g4⟩
    · rw [g2, obs, if_pos n0w, g1]
      exact XO.fail (f2.tr (g4.fx (by decide) (by decide))) (p := p) rfl rfl g3
    · obtain ⟨μ3, i1, i2, i3⟩ := x_adv hn hb p2.1 n2 d2
      have p3 := p2.ad i2 i3
      have f3 : FX μ μ3 := f2.tr (i3.fx (by decide) (by decide))
      generalize nx b e s2 = s3 at *
      have k3 := i2.2.2.1
      have hk := tkK_r b e s3
      rw [g4, obs, if_neg n1w, i1, obs, g1, g3, k3]
      show XO (pcl b e (if tkK b e s3 = 2 then _ else _)) b e μ _
      generalize tkV b e s2 = v at *
      by_cases c1 : tkK b e s3 = 2
      · rw [if_pos c1, c1, if_pos (show wr 2 = 2 from rfl), if_neg n1w]
        rcases x_expN hb n3 i2 (lo := 1) (hi := 9) (by omega) (by omega) with ⟨p, μ4, j1, j2, j3, j4⟩ | ⟨j1, j2, j3, j4⟩
        · rw [j2, obs, if_pos n0w, j1]
          exact XO.fail (f3.tr (j4.fx (by decide) (by decide))) (p := p) rfl rfl j3
        · obtain ⟨l1, μ4, l2, l3, l4⟩ := x_putT p3 hE hg (u := u) (v := v) (k := tkV b e s3) (by omega) (by omega) (by omega)
          rw [j4, obs, if_neg n1w, l1, obs, if_neg n1w, j3, j1]
          show XO (pcl b e (if 16 < Ed (cT T st) + tkV b e s3 then _ else _)) b e μ _
          rw [wr_id (x := Ed (cT T st) + tkV b e s3) (by omega) (by omega)]
          by_cases c2 : 16 < Ed (cT T st) + tkV b e s3
          · obtain ⟨μ5, m1, m2, m3⟩ := x_fail i2 (by omega) (w := 5) (by omega)
            rw [if_pos c2, if_pos c2, m1]
            exact XO.fail (f3.tr (m3.fx (by decide) (by decide))) (p := er b e s3 5) rfl rfl m2
          · have f4 : FX μ μ4 := f3.tr (l4.fx (by decide))
            obtain ⟨μ5, m1, m2, m3⟩ := x_adv hn hb l3.1 n3 l3.2.1
            have f5 : FX μ μ5 := f4.tr (m3.fx (by decide) (by decide))
            rw [if_neg c2, if_neg c2, l2, obs, if_neg n1w, m1, obs, obs]
            exact x_end hb n4 f5 (l3.ad m2 m3)
      · rw [if_neg c1, wr_id (x := tkK b e s3) (by omega) (by omega), if_neg c1, if_pos n0w]
        rcases x_semi i2 (by omega) with ⟨c3, es⟩ | ⟨c3, μ4, es, m2, m3⟩
        · obtain ⟨l1, μ4, l2, l3, l4⟩ := x_putT p3 hE hg (u := u) (v := v) (k := 1) (by omega) (by omega) (by omega)
          rw [if_pos c3, es, obs, if_neg n1w, l1, obs, if_pos n0w, wr_id (x := Ed (cT T st) + 1) (by omega) (by omega)]
          by_cases c2 : 16 < Ed (cT T st) + 1
          · obtain ⟨μ5, m1, m2, m3⟩ := x_fail i2 (by omega) (w := 5) (by omega)
            rw [if_pos c2, if_pos c2, m1]
            exact XO.fail (f3.tr (m3.fx (by decide) (by decide))) (p := er b e s3 5) rfl rfl m2
          · have f4 : FX μ μ4 := f3.tr (l4.fx (by decide))
            rw [if_neg c2, if_neg c2, l2, obs, if_pos n0w, obs]
            exact x_end hb n3 f4 l3
        · rw [if_neg c3, es, obs, if_pos n0w]
          exact XO.fail (f3.tr (m3.fx (by decide) (by decide))) (p := er b e s3 2) rfl rfl m2
end STX
