/-! CALLS THAT CHANGE THE GRAPHS -/
/-- the class's edits leave the reader, the output and the reference as they are -/
def XK (μ μ' : qMu) : Prop := ∀ a, (a = 1 ∨ a = 2 ∨ 76 ≤ a) → a ≠ 92 → μ' a = μ a
def MJ (μ μ' : qMu) : Prop := (∀ a, (a < 78 ∨ a = 82 ∨ 91 ≤ a) → μ' a = μ a) ∧ ∀ i, i ≠ 3 → i ≠ 4 → rd μ' 78 i = rd μ 78 i
theorem XK.tr {μ1 μ2 μ3 : qMu} (h1 : XK μ1 μ2) (h2 : XK μ2 μ3) : XK μ1 μ3 := fun a ha hb => (h2 a ha hb).trans (h1 a ha hb)
theorem MJ.tr {μ1 μ2 μ3 : qMu} (h1 : MJ μ1 μ2) (h2 : MJ μ2 μ3) : MJ μ1 μ3 := ⟨fun a ha => (h2.1 a ha).trans (h1.1 a ha), fun i i1 i2 => (h2.2 i i1 i2).trans (h1.2 i i1 i2)⟩
theorem Fr.xk {l : List Nat} {μ μ' : qMu} (h : Fr l μ μ') (hl : ∀ a ∈ l, (a = 0 ∨ 2 < a) ∧ (a < 76 ∨ a = 92)) : XK μ μ' := fun a ha hb => h a (fun q => by have := hl a q; omega)
theorem XK.at92 (μ : qMu) (v : Int) : XK μ (up μ 92 0 v) := fun _ _ hb => up_ne hb
theorem FC.xk {μ μ' : qMu} (h : FC μ μ') : XK μ μ' := Fr.xk h (by decide)
theorem Fr.mj {l : List Nat} {μ μ' : qMu} (h : Fr l μ μ') (hl : ∀ a ∈ l, a ∈ [79, 80, 81, 83, 84, 85, 86, 87, 88, 89, 90]) : MJ μ μ' := by
  have hl' : ∀ a ∈ l, 78 < a ∧ a < 91 ∧ a ≠ 82 := fun a ha => by
    have := hl a ha
    simp only [List.mem_cons, List.not_mem_nil, or_false] at this
    omega
  exact ⟨fun a ha => h a (fun q => by have := hl' a q; omega), fun i _ _ => rd_cg (h 78 (fun q => by have := hl' 78 q; omega)) i⟩
theorem FN.mj {μ μ' : qMu} (h : FN μ μ') : MJ μ μ' := by
  refine ⟨fun a ha => h.1 a ?_, fun i _ i2 => h.2 i i2⟩
  simp only [List.mem_cons, List.not_mem_nil, or_false]
  omega
theorem XK.s {μ μ' : qMu} (h : XK μ μ') : μ' 1001000 = μ 1001000 := h 1001000 (by omega) (by decide)
theorem MJ.s {μ μ' : qMu} (h : MJ μ μ') : μ' 1001000 = μ 1001000 := h.1 1001000 (by omega)
theorem MJ.kx {μ μ' : qMu} {e : qEn} (h : MJ μ μ') (hC : CX μ e) : CX μ' e := hC.kp (rd_cg (h.1 0 (by omega)) 11) (h.1 11 (by omega)) (h.1 12 (by omega)) (h.1 13 (by omega)) (h.1 14 (by omega))
section MUT
variable {μ μ1 μ2 : qMu} {n : Nat} {e e' : qEn} {p h p' h' : Nat} {E E' : Nat → qEn}
theorem XK.m (f : XK μ μ1) (R : RR μ e p h E) : CM μ1 e ∧ HM μ1 h E := ⟨R.2.2.1.kp (f 79 (by omega) (by decide)), R.2.2.2.2.1.kp (rd_cg (f 78 (by omega) (by decide)) 3) (f 81 (by omega) (by decide))⟩
theorem RR.mut (R : RR μ e p h E) (hE : EV e') (hX : CX μ1 e') (hH : HX μ1 p' h' E') (fX : XK μ μ1) (hM : CM μ2 e') (hHM : HM μ2 h' E') (fM : MJ μ1 μ2) (hEE : ∀ j, j < h' → EV (E' j)) : RR μ2 e' p' h' E' := by
  obtain ⟨-, -, -, -, -, -, h7, h8, h9⟩ := R
  have c : ∀ a, (a = 1 ∨ a = 2 ∨ a = 76 ∨ a = 77) → μ2 a = μ a := fun a ha => (fM.1 a (by omega)).trans (fX a (by omega) (by omega))
  have c2 : ∀ a, (a = 82 ∨ a = 91) → μ2 a = μ a := fun a ha => (fM.1 a (by omega)).trans (fX a (by omega) (by omega))
  have d : ∀ i, i ≠ 3 → i ≠ 4 → rd μ2 78 i = rd μ 78 i := fun i i1 i2 => (fM.2 i i1 i2).trans (rd_cg (fX 78 (by omega) (by decide)) i)
  refine ⟨hE, fM.kx hX, hM, hH.kp (fM.1 32 (by omega)) (fun a a1 a2 => fM.1 a (by omega)), hHM, hEE, h7.kp (rd_cg (c 1 (by omega)) 5) (c 2 (by omega)) (d 6 (by decide) (by decide)) (c2 82 (by omega)), ⟨?_, ?_⟩, h9.kp (c 76 (by omega)) (c 77 (by omega)) (d 26 (by decide) (by decide)) (c2 91 (by omega))⟩
  · rw [rd_cg (c 1 (by omega)), d 7 (by decide) (by decide)]
    exact h8.1
  · rw [rd_cg (c 1 (by omega)), d 8 (by decide) (by decide)]
    exact h8.2
theorem JT.mut {F : Int → Int} {fx fm : qMu → Option (Int × qMu)} {b v : Int} (R : RR μ e p h E) (hE : EV e') (hx : fx μ = some (0, up μ1 92 0 v)) (hv : I32 v) (hX : CX μ1 e') (hH : HX μ1 p' h' E') (fX : XK μ μ1) (hm : fm (up μ1 92 0 v) = some (b, μ2)) (hb : F b = v) (hM : CM μ2 e') (hHM : HM μ2 h' E') (fM : MJ (up μ1 92 0 v) μ2) (ht : rd μ2 78 4 = 0) (hEE : ∀ j, j < h' → EV (E' j)) : JT F fx fm μ := by
  have fX' : XK μ (up μ1 92 0 v) := fX.tr (XK.at92 _ _)
  have hX' : CX (up μ1 92 0 v) e' := hX.kp (rd_na (by decide)) (up_ne (by decide)) (up_ne (by decide)) (up_ne (by decide)) (up_ne (by decide))
  have hH' : HX (up μ1 92 0 v) p' h' E' := hH.kp (up_ne (by decide)) (fun a a1 a2 => up_ne (by omega))
  refine ⟨0, up μ1 92 0 v, b, μ2, hx, hm, ht, fun _ => ?_, ⟨e', p', h', E', R.mut hE hX' hH' fX' hM hHM fM hEE⟩, fX'.s, fM.s.trans fX'.s⟩
  rw [rd_cg (fM.1 92 (by omega)), at92 hv, hb]
theorem LK1.mut {fx fm : qMu → Option (Int × qMu)} {v : Int} (R : RR μ e p h E) (hE : EV e') (hx : fx μ = some (v, μ1)) (hX : CX μ1 e') (hH : HX μ1 p' h' E') (fX : XK μ μ1) (hm : fm μ1 = some (v, μ2)) (hM : CM μ2 e') (hHM : HM μ2 h' E') (fM : MJ μ1 μ2) (hEE : ∀ j, j < h' → EV (E' j)) : LK1 ((fx μ).bind fun y1 => (fm y1.2).bind fun y2 => cmpR y1.1 y2.1 y2.2) μ := by
  rw [hx, obs, hm, obs]
  exact ⟨0, μ2, if_pos rfl, ⟨e', p', h', E', R.mut hE hX hH fX hM hHM fM hEE⟩, fM.s.trans fX.s⟩
/-- both remember -/
theorem x_rem (hn : 5000 ≤ n) (R : RR μ e p h E) (f : FC μ μ1) : ∃ μ', fX9_remember n μ1 = some μ' ∧ HX μ' ((p + 1) % 10) (min (h + 1) 10) (push E h e) ∧ CX μ' e ∧ XK μ μ' ∧ ∀ a, a ≠ 32 → (a < 35 ∨ 75 < a) → μ' a = μ1 a := by
  have R1 := R.c f
  obtain ⟨μ', a1, a2, a3⟩ := x_remember hn R1.2.1 R.1 R1.2.2.2.1
  exact ⟨μ', a1, a2, R1.2.1.kp (rd_cg (a3 0 (by decide) (by omega)) 11) (a3 11 (by decide) (by omega)) (a3 12 (by decide) (by omega)) (a3 13 (by decide) (by omega)) (a3 14 (by decide) (by omega)), f.xk.tr (fun a ha hb => a3 a (by omega) (by omega)), a3⟩
theorem m_rem (hn : 5000 ≤ n) (hC : CM μ e) (hH : HM μ h E) : ∃ μ', fX10_remember n μ = some μ' ∧ HM μ' (min (h + 1) 10) (push E h e) ∧ CM μ' e ∧ MJ μ μ' ∧ rd μ' 78 4 = rd μ 78 4 := by
  obtain ⟨μ', a1, a2, a3, a4⟩ := m_remember hn hC hH
  refine ⟨μ', a1, a2, hC.kp (a3 79 (by decide)), ⟨fun a ha => a3 a ?_, fun i i1 _ => a4 i i1⟩, a4 4 (by decide)⟩
  simp only [List.mem_cons, List.not_mem_nil, or_false]
  omega
theorem RR.pe (R : RR μ e p h E) : ∀ j, j < min (h + 1) 10 → EV (push E h e j) := push_EV R.1 h R.2.2.2.2.2.1 R.2.2.2.2.1.1
theorem HM.at4 (H : HM μ h E) (v : Int) : HM (up μ 78 4 v) h E := H.kp (rd_ni (by decide)) (up_ne (by decide))
theorem HM.fo (H : HM μ h E) (f : Fo 78 [4] μ μ1) : HM μ1 h E := H.kp (f.2 3 (by decide)) (f.1 81 (by decide))
theorem HM.mj (H : HM μ h E) (h3 : rd μ1 78 3 = rd μ 78 3) (h1 : μ1 81 = μ 81) : HM μ1 h E := H.kp h3 h1
theorem t4_mj (v : Int) : MJ μ (up μ 78 4 v) := (FN.t4 μ v).mj
theorem m_good20 {b : Int} (hb : b = 0 ∨ b = 1) : ∃ μ', fX10_good_ 0 b μ = some (0, μ') ∧ Fo 78 [4] μ μ' ∧ rd μ' 78 4 = 1 := by
  obtain ⟨μ', h1, h2, h3⟩ := m_good2 (μ := μ) (a := 0) (Or.inl rfl) hb
  rw [if_neg (fun z => absurd z.1 (by decide))] at h1
  exact ⟨μ', h1, h2, h3⟩
def gph (e : qEn) (c : Int → Int → Int) : qEn := (e.1, e.2.1, c, e.2.2.2)
theorem j_addEdge {r s : Int} (hn : 5000 ≤ n) (R : RR μ e p h E) (hr : I32 r) (hs : I32 s) : JT (fun x => x) (fL_addEdge n r s) (fX10_addEdge n r s) μ := by
  have hN := R.1.1.N
  have h16 := R.1.1.2.2.2.2
  have h0 := R.1.1.e0
  have a1 := x_cv R.2.1 R.1 hr
  have a2 := x_cv R.2.1 R.1 hs
  have me : fX10_edgesOf n 2 μ = some (Ed e.2.2.1) := m_edgesOf hn R.2.2.1.2.2.1 (Or.inl rfl)
  by_cases c : (0 ≤ r ∧ r < e.1) ∧ (0 ≤ s ∧ s < e.1)
  · rw [if_pos c.1] at a1
    rw [if_pos c.2] at a2
    have a3 : fX1_edgeCount 11 μ = some (Ed e.2.2.1) := congrArg some R.2.1.1.2
    by_cases c2 : Ed e.2.2.1 < 16
    · obtain ⟨μr, b1, b2, b3, b4, b5⟩ := x_rem hn R (FC.rf μ)
      obtain ⟨μ1, d1, d2, d3⟩ := x_put b3.1 R.1.1.bd (by omega) (u := r) (v := s) (k := 1) (by omega) (by omega) (by omega)
      have hV' := R.1.1.more c.1 c.2 (by omega)
      have hv := hV'.r r s
      have a4 : fX1_between 11 r s μ1 = some (addc e.2.2.1 r s 1 r s) := x_between d2.1 (by omega) (by omega)
      have X1 : CX μ1 (gph e (addc e.2.2.1 r s 1)) := ⟨d2, b3.2.1.kp (d3 13 (by decide)) (d3 14 (by decide)), (rd_cg (d3 0 (by decide)) 11).trans b3.2.2⟩
      have H1 : HX μ1 ((p + 1) % 10) (min (h + 1) 10) (push E h e) := b2.kp (d3 32 (by decide)) (fun a i1 i2 => d3 a (by simp; omega))
      have fX : XK μ μ1 := b4.tr (d3.xk (by decide))
      obtain ⟨M1, M2⟩ := (fX.tr (XK.at92 μ1 (addc e.2.2.1 r s 1 r s))).m R
      generalize hμ : up μ1 92 0 (addc e.2.2.1 r s 1 r s) = μ3 at *
      have m1 := m_av M1 R.1 hr hs
      rw [if_pos c] at m1
      have m2 : fX10_edgesOf n 2 μ3 = some (Ed e.2.2.1) := m_edgesOf hn M1.2.2.1 (Or.inl rfl)
      obtain ⟨μ4, g1, g2, g3⟩ := m_good2 (μ := μ3) (a := 1) (b := 1) (Or.inr rfl) (Or.inr rfl)
      rw [if_pos ⟨rfl, rfl⟩] at g1
      obtain ⟨μ5, i1, i2, i3, i4, i5⟩ := m_rem hn (M1.kp (g2.1 79 (by decide))) (M2.fo g2)
      obtain ⟨μ6, j1, j2, j3⟩ := m_adds (T := 2) i3 (Or.inl rfl) R.1.1.bd R.1.2.1.bd (u := r) (v := s) (k := 1) (by omega) (by omega) (by omega)
      rw [if_pos rfl, if_pos rfl] at j2
      have j4 : fX10_many 2 r s μ6 = some (addc e.2.2.1 r s 1 r s) := m_many j2.2.2.1 (Or.inl rfl) (by omega) (by omega)
      have em : fX10_addEdge n r s μ3 = some (addc e.2.2.1 r s 1 r s, μ6) := by
        unfold fX10_addEdge
        rw [m1, obs, m2, obs, wr_id (x := Ed e.2.2.1) (by omega) (by omega), if_pos c2, g1, obs, if_neg n1w, i1, obs, j1, obs, j4]
        rfl
      have fm : MJ μ3 μ6 := (g2.n.mj.tr i4).tr (j3.mj (by decide))
      subst hμ
      refine JT.mut (e' := gph e (addc e.2.2.1 r s 1)) (v := addc e.2.2.1 r s 1 r s) (b := addc e.2.2.1 r s 1 r s) R ⟨hV', R.1.2.1, R.1.2.2⟩ ?_ ⟨by omega, by omega⟩ X1 H1 fX em rfl j2 (i2.mj (rd_cg (j3 78 (by decide)) 3) (j3 81 (by decide))) fm ((rd_cg (j3 78 (by decide)) 4).trans (i5.trans g3)) R.pe
      · unfold fL_addEdge fX9_addEdge
        rw [a1, obs, Sum.elim_inl, a2, obs, Sum.elim_inl, a3, obs, wr_id (by omega) (by omega), if_pos c2, b1, obs, d1, obs, a4, obs, obs, Sum.elim_inl, put92]
        rfl
    · have m1 := m_av R.2.2.1 R.1 hr hs
      rw [if_pos c] at m1
      obtain ⟨μ4, g1, g2, g3⟩ := m_good2 (μ := μ) (a := 1) (b := 0) (Or.inr rfl) (Or.inl rfl)
      refine JT.mk (k := 2) (b := 0) R ?_ (FC.rf μ) ?_ g2.n (R.2.2.1.kp (g2.1 79 (by decide))) g3 (fun z => absurd z (by decide))
      · unfold fL_addEdge fX9_addEdge
        rw [a1, obs, Sum.elim_inl, a2, obs, Sum.elim_inl, a3, obs, wr_id (by omega) (by omega), if_neg c2]
        rfl
      · unfold fX10_addEdge
        rw [m1, obs, me, obs, wr_id (x := Ed e.2.2.1) (by omega) (by omega), if_neg c2, g1]
        rfl
  · have m1 := m_av R.2.2.1 R.1 hr hs
    rw [if_neg c] at m1
    obtain ⟨μ4, g1, g2, g3⟩ := m_good20 (μ := μ) (b := if wr (Ed e.2.2.1) < 16 then 1 else 0) (by split; exact Or.inr rfl; exact Or.inl rfl)
    refine JT.mk (k := 1) (b := 0) R ?_ (FC.rf μ) ?_ g2.n (R.2.2.1.kp (g2.1 79 (by decide))) g3 (fun z => absurd z (by decide))
    · unfold fL_addEdge fX9_addEdge
      by_cases c1 : 0 ≤ r ∧ r < e.1
      · rw [if_pos c1] at a1
        rw [if_neg (fun z => c ⟨c1, z⟩)] at a2
        rw [a1, obs, Sum.elim_inl, a2]
        rfl
      · rw [if_neg c1] at a1
        rw [a1]
        rfl
    · unfold fX10_addEdge
      rw [m1, obs, me, obs, g1]
      rfl
theorem j_removeEdge {r s : Int} (hn : 5000 ≤ n) (R : RR μ e p h E) (hr : I32 r) (hs : I32 s) : JT (fun x => x) (fL_removeEdge n r s) (fX10_removeEdge n r s) μ := by
  have hN := R.1.1.N
  have h16 := R.1.1.2.2.2.2
  have h0 := R.1.1.e0
  have a1 := x_cv R.2.1 R.1 hr
  have a2 := x_cv R.2.1 R.1 hs
  by_cases c : (0 ≤ r ∧ r < e.1) ∧ (0 ≤ s ∧ s < e.1)
  · rw [if_pos c.1] at a1
    rw [if_pos c.2] at a2
    have hc := R.1.1.r r s
    have a3 : fX1_between 11 r s μ = some (e.2.2.1 r s) := x_between R.2.1.1.1 (by omega) (by omega)
    by_cases c2 : e.2.2.1 r s = 0
    · have m1 := m_av R.2.2.1 R.1 hr hs
      rw [if_pos c] at m1
      have m2 : fX10_many 2 r s μ = some (e.2.2.1 r s) := m_many R.2.2.1.2.2.1 (Or.inl rfl) (by omega) (by omega)
      obtain ⟨μ2, g1, g2, g3⟩ := m_good2 (μ := μ) (a := 1) (b := 0) (Or.inr rfl) (Or.inl rfl)
      refine JT.mk (k := 2) (b := 0) R ?_ (FC.rf μ) ?_ g2.n (R.2.2.1.kp (g2.1 79 (by decide))) g3 (fun z => absurd z (by decide))
      · unfold fL_removeEdge fX9_removeEdge fX9_checkEdge
        rw [a1, obs, Sum.elim_inl, a2, obs, Sum.elim_inl, a3, obs, c2]
        rfl
      · unfold fX10_removeEdge
        rw [m1, obs, if_neg n1w, m2, obs, c2, if_neg (show ¬ 0 < wr 0 by decide), obs, g1]
        rfl
    · obtain ⟨μr, b1, b2, b3, b4, b5⟩ := x_rem hn R (FC.rf μ)
      obtain ⟨μ1, d1, d2, d3⟩ := x_put b3.1 R.1.1.bd (by omega) (u := r) (v := s) (k := -1) (by omega) (by omega) (by omega)
      have hV' := R.1.1.less (u := r) (v := s) c2
      have hv := hV'.r r s
      have a4 : fX1_between 11 r s μ1 = some (addc e.2.2.1 r s (-1) r s) := x_between d2.1 (by omega) (by omega)
      have X1 : CX μ1 (gph e (addc e.2.2.1 r s (-1))) := ⟨d2, b3.2.1.kp (d3 13 (by decide)) (d3 14 (by decide)), (rd_cg (d3 0 (by decide)) 11).trans b3.2.2⟩
      have H1 : HX μ1 ((p + 1) % 10) (min (h + 1) 10) (push E h e) := b2.kp (d3 32 (by decide)) (fun a i1 i2 => d3 a (by simp; omega))
      have fX : XK μ μ1 := b4.tr (d3.xk (by decide))
      obtain ⟨M1, M2⟩ := (fX.tr (XK.at92 μ1 (addc e.2.2.1 r s (-1) r s))).m R
      generalize hμ : up μ1 92 0 (addc e.2.2.1 r s (-1) r s) = μ3 at *
      have m1 := m_av M1 R.1 hr hs
      rw [if_pos c] at m1
      have m2 : fX10_many 2 r s μ3 = some (e.2.2.1 r s) := m_many M1.2.2.1 (Or.inl rfl) (by omega) (by omega)
      obtain ⟨μ4, g1, g2, g3⟩ := m_good2 (μ := μ3) (a := 1) (b := 1) (Or.inr rfl) (Or.inr rfl)
      rw [if_pos ⟨rfl, rfl⟩] at g1
      obtain ⟨μ5, i1, i2, i3, i4, i5⟩ := m_rem hn (M1.kp (g2.1 79 (by decide))) (M2.fo g2)
      obtain ⟨μ6, j1, j2, j3⟩ := m_adds (T := 2) i3 (Or.inl rfl) R.1.1.bd R.1.2.1.bd (u := r) (v := s) (k := -1) (by omega) (by omega) (by omega)
      rw [if_pos rfl, if_pos rfl] at j2
      have j4 : fX10_many 2 r s μ6 = some (addc e.2.2.1 r s (-1) r s) := m_many j2.2.2.1 (Or.inl rfl) (by omega) (by omega)
      have em : fX10_removeEdge n r s μ3 = some (addc e.2.2.1 r s (-1) r s, μ6) := by
        unfold fX10_removeEdge
        rw [m1, obs, if_neg n1w, m2, obs, wr_id (x := e.2.2.1 r s) (by omega) (by omega), if_pos (by omega), obs, g1, obs, if_neg n1w, i1, obs, j1, obs, j4]
        rfl
      have fm : MJ μ3 μ6 := (g2.n.mj.tr i4).tr (j3.mj (by decide))
      subst hμ
      refine JT.mut (e' := gph e (addc e.2.2.1 r s (-1))) (v := addc e.2.2.1 r s (-1) r s) (b := addc e.2.2.1 r s (-1) r s) R ⟨hV', R.1.2.1, R.1.2.2⟩ ?_ ⟨by omega, by omega⟩ X1 H1 fX em rfl j2 (i2.mj (rd_cg (j3 78 (by decide)) 3) (j3 81 (by decide))) fm ((rd_cg (j3 78 (by decide)) 4).trans (i5.trans g3)) R.pe
      · unfold fL_removeEdge fX9_removeEdge fX9_checkEdge
        rw [a1, obs, Sum.elim_inl, a2, obs, Sum.elim_inl, a3, obs, wr_id (by omega) (by omega), if_neg c2, obs, Sum.elim_inl, b1, obs, d1, obs, a4, obs, obs, Sum.elim_inl, put92]
        rfl
  · have m1 := m_av R.2.2.1 R.1 hr hs
    rw [if_neg c] at m1
    obtain ⟨μ2, g1, g2, g3⟩ := m_good2 (μ := μ) (a := 0) (b := 0) (Or.inl rfl) (Or.inl rfl)
    refine JT.mk (k := 1) (b := 0) R ?_ (FC.rf μ) ?_ g2.n (R.2.2.1.kp (g2.1 79 (by decide))) g3 (fun z => absurd z (by decide))
    · unfold fL_removeEdge fX9_removeEdge
      by_cases c1 : 0 ≤ r ∧ r < e.1
      · rw [if_pos c1] at a1
        rw [if_neg (fun z => c ⟨c1, z⟩)] at a2
        rw [a1, obs, Sum.elim_inl, a2]
        rfl
      · rw [if_neg c1] at a1
        rw [a1]
        rfl
    · unfold fX10_removeEdge
      rw [m1, obs, if_pos n0w, obs, g1]
      rfl
theorem j_switchEdges {q r s t : Int} (hn : 5000 ≤ n) (R : RR μ e p h E) (hq : I32 q) (hr : I32 r) (hs : I32 s) (ht : I32 t) : JT (fun x => x) (fL_switchEdges n q r s t) (fX10_switchEdges n q r s t) μ := by
  have hN := R.1.1.N
  rcases x_cvs R.2.1 R.1 hq hr hs ht with ⟨c, a1⟩ | ⟨c, a1⟩
  · have a2 := x_cp R.2.1 R.1 c
    obtain ⟨o1, o2, o3, o4⟩ := c.r hN.2
    by_cases z : rsn e.2.1 e.2.2.1 q r s t = 0
    · rw [if_pos z] at a2
      obtain ⟨-, -, -, -, hV', -, -⟩ := sw_ok R.1.1 z
      obtain ⟨μr, b1, b2, b3, b4, b5⟩ := x_rem hn R (FC.rf μ)
      obtain ⟨μ1, d1, d2, d3⟩ := x_exch b3.1 R.1.1 z
      have a4 := x_defectCount hn d2.1 hV'
      have hv := dfc_r hV'
      have X1 : CX μ1 (gph e (sw e.2.2.1 q r s t)) := ⟨d2, b3.2.1.kp (d3 13 (by decide)) (d3 14 (by decide)), (rd_cg (d3 0 (by decide)) 11).trans b3.2.2⟩
      have H1 : HX μ1 ((p + 1) % 10) (min (h + 1) 10) (push E h e) := b2.kp (d3 32 (by decide)) (fun a i1 i2 => d3 a (by simp; omega))
      have fX : XK μ μ1 := b4.tr (d3.xk (by decide))
      obtain ⟨M1, M2⟩ := (fX.tr (XK.at92 μ1 (dfc (sw e.2.2.1 q r s t)))).m R
      generalize hμ : up μ1 92 0 (dfc (sw e.2.2.1 q r s t)) = μ3 at *
      obtain ⟨y, μ4, m1, m2, m3, m4, m5⟩ := m_can M1 R.1 hq hr hs ht
      have hy : y = 1 ∧ rd μ4 78 4 = 0 := by
        rcases m5 with m5 | m5 | m5
        · exact absurd c m5.1
        · exact absurd z m5.2.1
        · exact m5.2.2
      obtain ⟨rfl, h4⟩ := hy
      obtain ⟨μ5, i1, i2, i3, i4, i5⟩ := m_rem hn m2 (M2.mj (m3.2 3 (by decide)) (m3.1 81 (by decide)))
      obtain ⟨μ6, j1, j2, j3⟩ := m_switches i3 R.1.1 R.1.2.1 z
      have j4 := m_defectsNow hn j2.2.2.1 hV'
      have em : fX10_switchEdges n q r s t μ3 = some (dfc (sw e.2.2.1 q r s t), μ6) := by
        unfold fX10_switchEdges
        rw [m1, obs, if_neg n1w, i1, obs, j1, obs, j4]
        rfl
      have fm : MJ μ3 μ6 := (m3.mj.tr i4).tr (j3.mj (by decide))
      subst hμ
      refine JT.mut (e' := gph e (sw e.2.2.1 q r s t)) (v := dfc (sw e.2.2.1 q r s t)) (b := dfc (sw e.2.2.1 q r s t)) R ⟨hV', R.1.2.1, R.1.2.2⟩ ?_ ⟨by omega, by omega⟩ X1 H1 fX em rfl j2 (i2.mj (rd_cg (j3 78 (by decide)) 3) (j3 81 (by decide))) fm ((rd_cg (j3 78 (by decide)) 4).trans (i5.trans h4)) R.pe
      · unfold fL_switchEdges fX9_switchEdges
        rw [a1, obs, Sum.elim_inl, a2, obs, Sum.elim_inl, b1, obs, x_of o1 o2 o3 o4, obs, d1, obs, a4, obs, obs, Sum.elim_inl, put92]
        rfl
    · rw [if_neg z] at a2
      obtain ⟨y, μ3, m1, m2, m3, m4, m5⟩ := m_can R.2.2.1 R.1 hq hr hs ht
      have hy : y = 0 ∧ rd μ3 78 4 = 2 := by
        rcases m5 with m5 | m5 | m5
        · exact absurd c m5.1
        · exact m5.2.2
        · exact absurd m5.2.1 z
      obtain ⟨rfl, h4⟩ := hy
      refine JT.mk (k := 2) (b := 0) R ?_ (FC.rf μ) ?_ m3 m2 h4 (fun q => absurd q (by decide))
      · unfold fL_switchEdges fX9_switchEdges
        rw [a1, obs, Sum.elim_inl, a2]
        rfl
      · unfold fX10_switchEdges
        rw [m1]
        rfl
  · obtain ⟨y, μ3, m1, m2, m3, m4, m5⟩ := m_can R.2.2.1 R.1 hq hr hs ht
    have hy : y = 0 ∧ rd μ3 78 4 = 1 := by
      rcases m5 with m5 | m5 | m5
      · exact m5.2
      · exact absurd m5.1 c
      · exact absurd m5.1 c
    obtain ⟨rfl, h4⟩ := hy
    refine JT.mk (k := 1) (b := 0) R ?_ (FC.rf μ) ?_ m3 m2 h4 (fun q => absurd q (by decide))
    · unfold fL_switchEdges fX9_switchEdges
      rw [a1]
      rfl
    · unfold fX10_switchEdges
      rw [m1]
      rfl
end MUT
