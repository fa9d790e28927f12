/-! WHAT THE CLASS ANSWERS, in words of a state e -/
def I32 (x : Int) : Prop := -2147483648 ≤ x ∧ x ≤ 2147483647
theorem I32.w {x : Int} (h : I32 x) : wr x = x := wr_id h.1 h.2
theorem rd_I (μ : qMu) (a : Nat) (i : Int) : I32 (rd μ a i) := rd_r μ a i
theorem c0w : wr 0 = 0 := rfl
theorem c1w : ¬ wr 1 = 0 := by decide
theorem qbl_0 : qbl 0 = some 0 := rfl
theorem qbl_1 : qbl 1 = some 1 := rfl
/-- a query changes nothing but rows of the class's own -/
def FC (μ μ' : qMu) : Prop := Fr [19, 20, 22, 23, 24] μ μ'
theorem FC.rf (μ : qMu) : FC μ μ := Fr.rf _ _
theorem FC.tr {μ1 μ2 μ3 : qMu} (h1 : FC μ1 μ2) (h2 : FC μ2 μ3) : FC μ1 μ3 := Fr.tr h1 h2
theorem FC.cx {μ μ' : qMu} {e : qEn} (h : FC μ μ') (hC : CX μ e) : CX μ' e := hC.kp (rd_cg (h 0 (by decide)) 11) (h 11 (by decide)) (h 12 (by decide)) (h 13 (by decide)) (h 14 (by decide))
section CLS
variable {μ : qMu} {n : Nat} {e : qEn} {p q r s : Int}
theorem x_cv (hC : CX μ e) (hE : EV e) (hp : I32 p) : fX9_checkVertex p μ = some (if 0 ≤ p ∧ p < e.1 then .inl 0 else .inr 0) := by
  have hN := hE.1.N
  have h1 : fX1_vertexCount 11 μ = some e.1 := congrArg some hC.1.1.1
  unfold I32 at hp
  by_cases q1 : p < 0
  · rw [if_neg (by omega)]
    simp (disch := omega) only [ite_true, fX9_checkVertex, wr_id, if_pos]
  · by_cases q2 : p < e.1
    · rw [if_pos (by omega)]
      simp (disch := omega) only [ite_true, fX9_checkVertex, wr_id, if_pos, if_neg, h1, Option.bind_some]
    · rw [if_neg (by omega)]
      simp (disch := omega) only [ite_true, fX9_checkVertex, wr_id, if_neg, h1, Option.bind_some]
theorem x_cvi (hC : CX μ e) (hE : EV e) (hp : 0 ≤ p ∧ p < e.1) : fX9_checkVertex p μ = some (.inl 0) := by
  have hN := hE.1.N
  have := x_cv hC hE (p := p) ⟨by omega, by omega⟩
  rw [if_pos hp] at this
  exact this
theorem y_times0 (hC : CX μ e) (hE : EV e) (hp : 0 ≤ p ∧ p < e.1) (hq : 0 ≤ q ∧ q < e.1) : fX9_times p q 0 μ = some (.inl (e.2.2.1 p q)) := by
  have hN := hE.1.N
  unfold fX9_times
  rw [x_cvi hC hE hp, obs, Sum.elim_inl, x_cvi hC hE hq, obs, Sum.elim_inl]
  have e1 : fX9_choose 0 μ = some 11 := rfl
  rw [e1, obs, x_between hC.1.1 (by omega) (by omega), obs]
theorem y_times1 (hC : CX μ e) (hE : EV e) (hp : 0 ≤ p ∧ p < e.1) (hq : 0 ≤ q ∧ q < e.1) : fX9_times p q 1 μ = some (.inl (e.2.2.2 p q)) := by
  have hN := hE.1.N
  unfold fX9_times
  rw [x_cvi hC hE hp, obs, Sum.elim_inl, x_cvi hC hE hq, obs, Sum.elim_inl]
  have e1 : fX9_choose 1 μ = some 13 := by
    unfold fX9_choose
    rw [if_neg c1w]
  rw [e1, obs, x_between hC.2.1.1 (by omega) (by omega), obs]
theorem y_degree (hn : 5000 ≤ n) (hC : CX μ e) (hE : EV e) (hp : 0 ≤ p ∧ p < e.1) : fX9_degree n p 0 μ = some (.inl (dgs e.2.2.1 p)) := by
  have hN := hE.1.N
  unfold fX9_degree
  rw [x_cvi hC hE hp, obs, Sum.elim_inl]
  have e1 : fX9_choose 0 μ = some 11 := rfl
  rw [e1, obs, x_degreeOf hn hC.1.1 hE.1 (by omega), obs]
theorem y_degree8 (hC : CX μ e) (hE : EV e) : fX9_degree n 8 0 μ = some (.inr 0) := by
  have hN := hE.1.N
  have h := x_cv hC hE (p := 8) ⟨by omega, by omega⟩
  rw [if_neg (by omega)] at h
  unfold fX9_degree
  rw [h, obs, Sum.elim_inr]
theorem y_loops (hn : 5000 ≤ n) (hC : CX μ e) (hE : EV e) : fX9_loops n μ = some (lpc e.2.2.1) := by
  unfold fX9_loops
  rw [x_loopCount hn hC.1.1 hE.1, obs]
theorem y_defects (hn : 5000 ≤ n) (hC : CX μ e) (hE : EV e) : fX9_defects n μ = some (dfc e.2.2.1) := by
  unfold fX9_defects
  rw [x_defectCount hn hC.1.1 hE.1, obs]
theorem y_simple (hn : 5000 ≤ n) (hC : CX μ e) (hE : EV e) : fX9_isSimple n μ = some (if wr (dfc e.2.2.1) = 0 then 1 else 0) := by
  unfold fX9_isSimple
  rw [x_defectCount hn hC.1.1 hE.1, obs]
  by_cases h : wr (dfc e.2.2.1) = 0
  · rw [if_pos h, if_pos h]
  · rw [if_neg h, if_neg h]
theorem y_triangles (hn : 5000 ≤ n) (hC : CX μ e) (hE : EV e) : fX9_triangles n μ = some (trs e.2.2.1) := by
  unfold fX9_triangles
  rw [x_triangleCount hn hC.1.1 hE.1, obs]
theorem y_components (hn : 5000 ≤ n) (hC : CX μ e) (hE : EV e) : ∃ μ', fX9_components n μ = some (nco e.1 e.2.2.1, μ') ∧ FC μ μ' := by
  obtain ⟨μ1, b1, b2, b4⟩ := x_parts hn hC.1.1 hE.1 (by decide)
  refine ⟨μ1, ?_, b2.wk (by decide)⟩
  unfold fX9_components
  rw [b1, obs, b4, obs]
theorem y_sorted (hn : 5000 ≤ n) (hC : CX μ e) (hE : EV e) (hp : 0 ≤ p ∧ p < e.1) : ∃ μ', fX9_sorted n p μ = some (.inl (srt (dgs e.2.2.1) e.1.toNat p), μ') ∧ FC μ μ' := by
  have hN := hE.1.N
  obtain ⟨μ1, b1, b2, b3⟩ := x_take (q := 22) hn hC.1.1 hE.1 (by omega)
  refine ⟨μ1, ?_, b3.wk (by decide)⟩
  have e1 : fX6_greatest 22 p μ1 = some (srt (dgs e.2.2.1) e.1.toNat p) := by
    have := b2.2.2.2 p hp.1 (by omega)
    simp (disch := omega) only [fX6_greatest, qLd_in, Option.bind_some]
    exact congrArg some this
  unfold fX9_sorted
  rw [x_cvi hC hE hp, obs, Sum.elim_inl, b1, obs, e1, obs]
theorem y_slack (hn : 5000 ≤ n) (hC : CX μ e) (hE : EV e) (hp : 1 ≤ p ∧ p ≤ e.1) : ∃ μ', fX9_slack n p μ = some (.inl (slk (srt (dgs e.2.2.1) e.1.toNat) e.1 p), μ') ∧ FC μ μ' := by
  have hN := hE.1.N
  obtain ⟨μ1, b1, b2, b3⟩ := x_take (q := 22) hn hC.1.1 hE.1 (by omega)
  refine ⟨μ1, ?_, b3.wk (by decide)⟩
  have e1 := x_slackOf hn b2 (by omega) hE.1.dg1 (k := p) (by omega)
  rw [show ((e.1.toNat : Nat) : Int) = e.1 by omega] at e1
  have e2 : fX1_vertexCount 11 μ = some e.1 := congrArg some hC.1.1.1
  unfold fX9_slack
  rw [wr_id (by omega) (by omega), if_neg (by omega), e2, obs, wr_id (by omega) (by omega), if_neg (by omega), b1, obs, e1, obs]
theorem y_mode (hp : 0 ≤ p ∧ p ≤ 2) : fX9_checkMode p μ = some (.inl 0) := by
  simp (disch := omega) only [ite_true, fX9_checkMode, wr_id, if_neg, if_pos]
theorem y_possible (hn : 5000 ≤ n) (hC : CX μ e) (hE : EV e) (hp : 0 ≤ p ∧ p ≤ 2) : ∃ b μ', fX9_isPossible n p μ = some (.inl b, μ') ∧ FC μ μ' ∧ (b = 1 ∧ pos p e.1 (dgs e.2.2.1) ∨ b = 0 ∧ ¬ pos p e.1 (dgs e.2.2.1)) := by
  have hN := hE.1.N
  obtain ⟨μ1, b1, b2, b3⟩ := x_take (q := 22) hn hC.1.1 hE.1 (by omega)
  have h1 := hand hE.1
  have h2 := hE.1.2.2.2.2
  obtain ⟨b, c1, c2⟩ := x_allows hn hN b2 hE.1.dg1 (by omega) (by omega) hp
  refine ⟨b, μ1, ?_, b3.wk (by decide), c2⟩
  have c3 : qbl b = some b := by
    rcases c2 with ⟨rfl, -⟩ | ⟨rfl, -⟩ <;> rfl
  unfold fX9_isPossible
  rw [y_mode hp, obs, Sum.elim_inl, b1, obs, c1, obs, c3, obs]
theorem y_vertices (hC : CX μ e) : fX9_vertices μ = some e.1 := by
  unfold fX9_vertices
  have e2 : fX1_vertexCount 11 μ = some e.1 := congrArg some hC.1.1.1
  rw [e2, obs]
theorem y_reason (hC : CX μ e) (hE : EV e) (hp : 0 ≤ p ∧ p < e.1) (hq : 0 ≤ q ∧ q < e.1) (hr : 0 ≤ r ∧ r < e.1) (hs : 0 ≤ s ∧ s < e.1) : fX9_reason p q r s μ = some (.inl (rsn e.2.1 e.2.2.1 p q r s)) := by
  have hN := hE.1.N
  have e1 : fX9_checkVertices p q r s μ = some (.inl 0) := by
    simp only [fX9_checkVertices, x_cvi hC hE hp, x_cvi hC hE hq, x_cvi hC hE hr, x_cvi hC hE hs, Option.bind_some, Sum.elim_inl]
  unfold fX9_reason
  rw [e1, obs, Sum.elim_inl, hC.2.2, x_reason hC.1.1 hE.1 hE.2.2 (by omega) (by omega) (by omega) (by omega), obs]
theorem y_setMode3 : fX9_setMode n 3 μ = some (.inr 1, μ) := by
  have e1 : fX9_checkMode 3 μ = some (.inr 1) := by
    simp (disch := omega) only [ite_true, fX9_checkMode, wr_id, if_neg, if_pos]
  unfold fX9_setMode
  rw [e1, obs, Sum.elim_inr]
theorem y_removeNo (hC : CX μ e) (hE : EV e) (hp : 0 ≤ p ∧ p < e.1) (h : e.2.2.1 p p = 0) : fX9_removeEdge n p p μ = some (.inr 2, μ) := by
  have hN := hE.1.N
  have e1 : fX9_checkEdge p p μ = some (.inr 2) := by
    simp (disch := omega) only [ite_true, fX9_checkEdge, x_between hC.1.1 (by omega : 0 ≤ p ∧ p < 8) (by omega : 0 ≤ p ∧ p < 8), h, Option.bind_some, wr_id, if_neg, if_pos]
  unfold fX9_removeEdge
  rw [x_cvi hC hE hp, obs, Sum.elim_inl, obs, Sum.elim_inl, e1, obs, Sum.elim_inr]
theorem y_remove {E : Nat → qEn} {pp h : Nat} (hn : 5000 ≤ n) (hC : CX μ e) (hE : EV e) (H : HX μ pp h E) (hp : 0 ≤ p ∧ p < e.1) (h0 : 0 < e.2.2.1 p p) : ∃ μ', fX9_removeEdge n p p μ = some (.inl (e.2.2.1 p p - 1), μ') ∧ ∀ a, 76 ≤ a → μ' a = μ a := by
  have hN := hE.1.N
  have hr := hE.1.r p p
  have e1 : fX9_checkEdge p p μ = some (.inl 0) := by
    simp (disch := omega) only [ite_true, fX9_checkEdge, x_between hC.1.1 (by omega : 0 ≤ p ∧ p < 8) (by omega : 0 ≤ p ∧ p < 8), Option.bind_some, wr_id, if_neg, if_pos]
  obtain ⟨μ1, r1, r2, r3⟩ := x_remember hn hC hE H
  have hY : GY μ1 11 e.1 e.2.2.1 := hC.1.kp (r3 11 (by omega) (by omega)) (r3 12 (by omega) (by omega))
  obtain ⟨μ2, p1, p2, p3⟩ := x_put hY hE.1.bd (by have := hE.bd; omega) (u := p) (v := p) (k := -1) (by omega) (by omega) (by omega)
  refine ⟨μ2, ?_, fun a ha => (p3 a (by simp; omega)).trans (r3 a (by omega) (by omega))⟩
  have e2 := x_between p2.1 (u := p) (v := p) (by omega) (by omega)
  rw [addc_pl, if_pos (Or.inl ⟨rfl, rfl⟩)] at e2
  unfold fX9_removeEdge
  rw [x_cvi hC hE hp, obs, Sum.elim_inl, obs, Sum.elim_inl, e1, obs, Sum.elim_inl, r1, obs, p1, obs, e2, obs]
  rfl
theorem y_errorKind (h : rd μ 1 7 = 0) : fX9_errorKind μ = some 0 := by
  unfold fX9_errorKind
  have e1 : fX5_kindOfError μ = some 0 := congrArg some h
  rw [e1, obs]
theorem y_load {b : Int → Int} {F : Int} {st : qEn} (hn : 5000 ≤ n) (hb : TB b q) (hF : BX μ F b) (hq : q ≤ F ∧ F ≤ 400) (h : ptx b q = .inr st) : ∃ μ', fX9_load n q μ = some (.inl (Ed st.2.2.1), μ') ∧ EV st ∧ CX μ' st ∧ HX μ' 0 0 (fun _ => st) ∧ rd μ' 1 7 = 0 ∧ ∀ a, 76 ≤ a → μ' a = μ a := by
  have h1 := hb.1
  have ef : fX5_fedBytes μ = some F := congrArg some hF.1
  obtain ⟨μ1, x1, x2, x3⟩ := x_text hn hb hF.1 hq (fun i i1 i2 => hF.2 i i1 (by omega))
  rcases x3 with ⟨pe, y1, y2, y3⟩ | ⟨st', y1, y2, y3, y4, y5, y6⟩
  · rw [h] at y1
    cases y1
  · rw [h] at y1
    cases y1
    have hE := ptx_ok (by omega) h
    obtain ⟨hb1, hb2, hb3⟩ := hE.bd
    obtain ⟨μ3, u1, u2, u3⟩ := x_become (g := 11) hn y3 hE.1.bd (by decide) (by decide) (by decide) hb1 hb3
    obtain ⟨μ4, v1, v2, v3⟩ := x_become (g := 13) hn (y4.kp (u3 5 (by decide)) (u3 6 (by decide))) hE.2.1.bd (by decide) (by decide) (by decide) hb2 hb3
    have e4 : rd μ4 1 4 = st.2.1 := by
      rw [rd_cg (v3 1 (by decide)), rd_cg (u3 1 (by decide))]
      exact y5
    obtain ⟨μ8, hμ8⟩ : ∃ μ8, μ8 = up (up (up μ4 0 11 st.2.1) 32 3 0) 32 4 0 := ⟨_, rfl⟩
    have f8 : Fr [0, 32] μ4 μ8 := by
      rw [hμ8]
      exact ((Fr.up (by simp)).tr (Fr.up (by simp))).tr (Fr.up (by simp))
    have X8 : CX μ8 st := by
      refine ⟨(u2.kp (v3 11 (by decide)) (v3 12 (by decide))).kp (f8 11 (by decide)) (f8 12 (by decide)), v2.kp (f8 13 (by decide)) (f8 14 (by decide)), ?_⟩
      rw [hμ8, rd_na (by decide), rd_na (by decide), rd_at]
      exact wr_id (by have := hE.2.2; omega) (by have := hE.2.2; omega)
    have H8 : HX μ8 0 0 (fun _ => st) := by
      refine ⟨by omega, ?_, ?_, fun j hj => by omega⟩
      · rw [hμ8, rd_ni (by decide), rd_at]
        rfl
      · rw [hμ8, rd_at]
        rfl
    have fa : Fr [0, 1, 3, 4, 5, 6, 7, 8, 9, 10, 11, 12, 13, 14, 32] μ μ8 := (((x1.wk (by simp)).tr (u3.wk (by simp))).tr (v3.wk (by simp))).tr (f8.wk (by simp))
    have ec : fX1_edgeCount 11 μ8 = some (Ed st.2.2.1) := congrArg some X8.1.2
    refine ⟨μ8, ?_, hE, X8, H8, ?_, fun a ha => fa a (by simp; omega)⟩
    · have es : ∀ ν, fX5_readGraph ν = some 3 := fun _ => rfl
      have et : ∀ ν, fX5_readTarget ν = some 5 := fun _ => rfl
      have em : fX5_readMode μ4 = some st.2.1 := congrArg some e4
      have eg : fX2_forget (up μ4 0 11 st.2.1) = some μ8 := by
        unfold fX2_forget
        rw [qPf_eq, obs, qPf_eq, obs, hμ8]
      unfold fX9_load
      rw [wr_id (by omega) (by omega), if_neg (by omega), ef, obs, wr_id (by omega) (by omega), if_neg (by omega), y2, obs, if_neg n1w, es, obs, u1, obs, et, obs, v1, obs, em, obs, qPf_eq, obs, eg, obs, ec, obs]
    · rw [rd_cg (f8 1 (by decide)), rd_cg (v3 1 (by decide)), rd_cg (u3 1 (by decide))]
      exact y6.1
end CLS
