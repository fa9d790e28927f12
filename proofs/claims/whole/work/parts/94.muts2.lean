section MU2
variable {μ μ1 μ2 : qMu} {n : Nat} {e e' : qEn} {p h p' h' : Nat} {E E' : Nat → qEn}
theorem m_possAny {q : Int} (hn : 5000 ≤ n) (hC : CM μ e) (hE : EV e) (hq : I32 q) : ∃ b μ', fX10_isPossibleIn n q μ = some (b, μ') ∧ Fr [86] μ μ' ∧ (b = 0 ∨ b = 1) ∧ ((0 ≤ q ∧ q ≤ 2) → (b = 1 ∧ pos q e.1 (dgs e.2.2.1) ∨ b = 0 ∧ ¬ pos q e.1 (dgs e.2.2.1))) := by
  have hq' : -2147483648 ≤ q ∧ q ≤ 2147483647 := hq
  by_cases c : 0 ≤ q ∧ q ≤ 2
  · obtain ⟨b, μ', h1, h2, h3⟩ := m_isPossibleIn hn hC hE.1 c
    refine ⟨b, μ', h1, h2, ?_, fun _ => h3⟩
    rcases h3 with h3 | h3
    · exact Or.inr h3.1
    · exact Or.inl h3.1
  · obtain ⟨b, μ', h1, h2, h3⟩ := m_isPossibleIn (md := 2) hn hC hE.1 (by omega)
    have e1 : fX10_isPossibleIn n q μ = fX10_isPossibleIn n 2 μ := by
      simp (disch := omega) only [fX10_isPossibleIn, wr_id, if_neg]
    refine ⟨b, μ', e1.trans h1, h2, ?_, fun z => absurd z c⟩
    rcases h3 with h3 | h3
    · exact Or.inr h3.1
    · exact Or.inl h3.1
theorem j_realise {q : Int} (hn : 5000 ≤ n) (R : RR μ e p h E) (hq : I32 q) : JT (fun x => x) (fL_realise n q) (fX10_realise n q) μ := by
  have hN := R.1.1.N
  have a1 := x_cm (μ := μ) hq
  have hi : ∀ ν, fX10_isIn q 0 2 ν = some (if 0 ≤ q ∧ q ≤ 2 then 1 else 0) := fun ν => m_isInG hq ⟨by omega, by omega⟩ ⟨by omega, by omega⟩
  by_cases c : 0 ≤ q ∧ q ≤ 2
  · rw [if_pos c] at a1
    simp only [if_pos c] at hi
    obtain ⟨μ1, b1, b2, b3⟩ := x_take (q := 22) (g := 11) hn R.2.1.1.1 R.1.1 (by decide)
    have hs := dgs_s R.1
    have f1 : FC μ μ1 := b3.c (by decide)
    obtain ⟨v, d1, d2⟩ := x_allows (md := q) hn hN b2 R.1.1.dg1 hs.1 hs.2 c
    rcases d2 with ⟨rfl, hp⟩ | ⟨rfl, hp⟩
    · have hd : ∀ i, 0 ≤ dgs e.2.2.1 i ∧ dgs e.2.2.1 i ≤ 150 := fun i => by have := R.1.1.dg i; omega
      have hV' := rlz_vd (md := q) hN hd hs.1 hs.2 c hp
      obtain ⟨μr, r1, r2, r3, r4, r5⟩ := x_rem hn R f1
      have bq : SQ μr 22 e.1.toNat (dgs e.2.2.1) := b2.kp (r5 22 (by decide) (by omega)) (r5 (22 + 1) (by decide) (by omega)) (r5 (22 + 2) (by decide) (by omega))
      obtain ⟨μ3, g1, g2, g3⟩ := x_build (md := q) hn hN bq hd hs.1 hs.2 c hp
      have a4 := x_defectCount hn g2.1 hV'
      have hv := dfc_r hV'
      have X1 : CX μ3 (gph e (rlz q e.1 (dgs e.2.2.1))) := ⟨g2, r3.2.1.kp (g3 13 (by decide)) (g3 14 (by decide)), (rd_cg (g3 0 (by decide)) 11).trans r3.2.2⟩
      have H1 : HX μ3 ((p + 1) % 10) (min (h + 1) 10) (push E h e) := r2.kp (g3 32 (by decide)) (fun a i1 i2 => g3 a (by simp; omega))
      have fX : XK μ μ3 := r4.tr (g3.xk (by decide))
      obtain ⟨M1, M2⟩ := (fX.tr (XK.at92 μ3 (dfc (rlz q e.1 (dgs e.2.2.1))))).m R
      generalize hμ : up μ3 92 0 (dfc (rlz q e.1 (dgs e.2.2.1))) = μ4 at *
      obtain ⟨w, μ5, m1, m2, m3⟩ := m_isPossibleIn (md := q) hn M1 R.1.1 c
      have hw : w = 1 := by
        rcases m3 with m3 | m3
        · exact m3.1
        · exact absurd hp m3.2
      subst hw
      have M3 := M1.kp (m2 79 (by decide))
      obtain ⟨μ6, k1, k2, k3⟩ := m_good2 (μ := μ5) (a := 1) (b := 1) (Or.inr rfl) (Or.inr rfl)
      rw [if_pos ⟨rfl, rfl⟩] at k1
      obtain ⟨μ7, i1, i2, i3, i4, i5⟩ := m_rem hn (M3.kp (k2.1 79 (by decide))) ((M2.mj (rd_cg (m2 78 (by decide)) 3) (m2 81 (by decide))).fo k2)
      obtain ⟨μ8, j1, j2, j3⟩ := m_realises (md := q) hn i3 R.1.1 R.1.2.1 c hp
      have j4 := m_defectsNow hn j2.2.2.1 hV'
      have em : fX10_realise n q μ4 = some (dfc (rlz q e.1 (dgs e.2.2.1)), μ8) := by
        unfold fX10_realise
        rw [hi, obs, m1, obs, k1, obs, if_neg n1w, i1, obs, j1, obs, j4]
        rfl
      have fm : MJ μ4 μ8 := (((m2.n (by decide)).mj.tr k2.n.mj).tr i4).tr (j3.mj (by decide))
      subst hμ
      refine JT.mut (e' := gph e (rlz q e.1 (dgs e.2.2.1))) (v := dfc (rlz q e.1 (dgs e.2.2.1))) (b := dfc (rlz q e.1 (dgs e.2.2.1))) R ⟨hV', R.1.2.1, R.1.2.2⟩ ?_ ⟨by omega, by omega⟩ X1 H1 fX em rfl j2 (i2.mj (rd_cg (j3 78 (by decide)) 3) (j3 81 (by decide))) fm ((rd_cg (j3 78 (by decide)) 4).trans (i5.trans k3)) R.pe
      unfold fL_realise fX9_realise
      rw [a1, obs, Sum.elim_inl, b1, obs, d1, obs, if_neg n1w, r1, obs, g1, obs, a4, obs, obs, Sum.elim_inl, put92]
      rfl
    · have R1 := R.c f1
      obtain ⟨w, μ5, m1, m2, m3⟩ := m_isPossibleIn (md := q) hn R1.2.2.1 R.1.1 c
      have hw : w = 0 := by
        rcases m3 with m3 | m3
        · exact absurd m3.2 hp
        · exact m3.1
      subst hw
      obtain ⟨μ6, k1, k2, k3⟩ := m_good2 (μ := μ5) (a := 1) (b := 0) (Or.inr rfl) (Or.inl rfl)
      refine JT.mk (k := 2) (b := 0) R ?_ f1 ?_ ((m2.n (by decide)).tr k2.n) ((R1.2.2.1.kp (m2 79 (by decide))).kp (k2.1 79 (by decide))) k3 (fun z => absurd z (by decide))
      · unfold fL_realise fX9_realise
        rw [a1, obs, Sum.elim_inl, b1, obs, d1]
        rfl
      · unfold fX10_realise
        rw [hi, obs, m1, obs, k1]
        rfl
  · rw [if_neg c] at a1
    simp only [if_neg c] at hi
    obtain ⟨w, μ5, m1, m2, m3, -⟩ := m_possAny hn R.2.2.1 R.1 hq
    obtain ⟨μ6, k1, k2, k3⟩ := m_good20 (μ := μ5) (b := w) m3
    refine JT.mk (k := 1) (b := 0) R ?_ (FC.rf μ) ?_ ((m2.n (by decide)).tr k2.n) ((R.2.2.1.kp (m2 79 (by decide))).kp (k2.1 79 (by decide))) k3 (fun z => absurd z (by decide))
    · unfold fL_realise fX9_realise
      rw [a1]
      rfl
    · unfold fX10_realise
      rw [hi, obs, m1, obs, k1]
      rfl
theorem j_follow {q : Int} (hn : 5000 ≤ n) (R : RR μ e p h E) (hq : I32 q) : JT (fun x => x) (fL_follow n q) (fX10_follow n q) μ := by
  have hq' : -2147483648 ≤ q ∧ q ≤ 2147483647 := hq
  have hi : ∀ ν, fX10_isIn q 0 16 ν = some (if 0 ≤ q ∧ q ≤ 16 then 1 else 0) := fun ν => m_isInG hq ⟨by omega, by omega⟩ ⟨by omega, by omega⟩
  by_cases c : 0 ≤ q ∧ q ≤ 16
  · simp only [if_pos c] at hi
    rcases x_checkAlike hn R.2.1.1.1 R.1.1 R.2.1.2.1.1 R.1.2.1 with ⟨ha, a1⟩ | ⟨ha, a1⟩
    · obtain ⟨μr, r1, r2, r3, r4, r5⟩ := x_rem hn R (FC.rf μ)
      obtain ⟨L, μ2, b1, b2, b3, b4, b5, b6⟩ := x_pathFind hn r3.1 r3.2.1.1 R.1.1 R.1.2.1 ha
      have g11 : GY μ2 11 e.1 e.2.2.1 := r3.1.kp (b6 11 (by decide)) (b6 12 (by decide))
      obtain ⟨μ3, d1, d2, d3⟩ := x_follows hn g11 R.1.1 R.1.2.1 ha c b2 b3 b4 b5
      obtain ⟨hV', -, -, -⟩ := pth_ok R.1.1 R.1.2.1 ha (min q.toNat L)
      have fr : Fr [11, 12, 28, 29, 30, 31] μr μ3 := (b6.wk (by simp)).tr (d3.wk (by simp))
      have g13 : GY μ3 13 e.1 e.2.2.2 := r3.2.1.kp (fr 13 (by decide)) (fr 14 (by decide))
      have a4 := x_surplusOver hn d2.1 hV' g13.1 R.1.2.1
      have hv := sps_r hV' R.1.2.1
      have X1 : CX μ3 (gph e (pth e.2.2.2 e.2.2.1 (min q.toNat L))) := ⟨d2, g13, (rd_cg (fr 0 (by decide)) 11).trans r3.2.2⟩
      have H1 : HX μ3 ((p + 1) % 10) (min (h + 1) 10) (push E h e) := r2.kp (fr 32 (by decide)) (fun a i1 i2 => fr a (by simp; omega))
      have fX : XK μ μ3 := r4.tr (fr.xk (by decide))
      obtain ⟨M1, M2⟩ := (fX.tr (XK.at92 μ3 (sps (pth e.2.2.2 e.2.2.1 (min q.toNat L)) e.2.2.2))).m R
      generalize hμ : up μ3 92 0 (sps (pth e.2.2.2 e.2.2.1 (min q.toNat L)) e.2.2.2) = μ4 at *
      have ma := m_alike hn M1 R.1 ha
      obtain ⟨μ6, k1, k2, k3⟩ := m_good2 (μ := μ4) (a := 1) (b := 1) (Or.inr rfl) (Or.inr rfl)
      rw [if_pos ⟨rfl, rfl⟩] at k1
      obtain ⟨μ7, i1, i2, i3, i4, i5⟩ := m_rem hn (M1.kp (k2.1 79 (by decide))) (M2.fo k2)
      obtain ⟨L', μ8, o1, o2, o3, o4, o5, o6⟩ := m_laysPath hn i3 R.1.1 R.1.2.1 ha
      have eL := b2.uniq o2
      subst eL
      obtain ⟨μ9, j1, j2, j3⟩ := m_follows hn o5 R.1.1 R.1.2.1 ha c o2 o3 o4
      have j4 := m_differenceNow hn j2.2.2.1 hV' j2.2.2.2 R.1.2.1
      have fr2 : Fr [79, 80, 90] μ7 μ9 := o6.tr (j3.wk (by simp))
      have em : fX10_follow n q μ4 = some (sps (pth e.2.2.2 e.2.2.1 (min q.toNat L)) e.2.2.2, μ9) := by
        unfold fX10_follow
        rw [hi, obs, ma, obs, k1, obs, if_neg n1w, i1, obs, o1, obs, j1, obs, j4]
        rfl
      have fm : MJ μ4 μ9 := (k2.n.mj.tr i4).tr (fr2.mj (by decide))
      subst hμ
      refine JT.mut (e' := gph e (pth e.2.2.2 e.2.2.1 (min q.toNat L))) (v := sps (pth e.2.2.2 e.2.2.1 (min q.toNat L)) e.2.2.2) (b := sps (pth e.2.2.2 e.2.2.1 (min q.toNat L)) e.2.2.2) R ⟨hV', R.1.2.1, R.1.2.2⟩ ?_ ⟨by omega, by omega⟩ X1 H1 fX em rfl j2 (i2.mj (rd_cg (fr2 78 (by decide)) 3) (fr2 81 (by decide))) fm ((rd_cg (fr2 78 (by decide)) 4).trans (i5.trans k3)) R.pe
      unfold fL_follow fX9_follow
      rw [hq.w, if_neg (by omega), if_neg (by omega), a1, obs, Sum.elim_inl, r1, obs, b1, obs, d1, obs, a4, obs, obs, Sum.elim_inl, put92]
      rfl
    · have ma := m_unlike hn R.2.2.1 R.1 ha
      obtain ⟨μ6, k1, k2, k3⟩ := m_good2 (μ := μ) (a := 1) (b := 0) (Or.inr rfl) (Or.inl rfl)
      refine JT.mk (k := 2) (b := 0) R ?_ (FC.rf μ) ?_ k2.n (R.2.2.1.kp (k2.1 79 (by decide))) k3 (fun z => absurd z (by decide))
      · unfold fL_follow fX9_follow
        rw [hq.w, if_neg (by omega), if_neg (by omega), a1]
        rfl
      · unfold fX10_follow
        rw [hi, obs, ma, obs, k1]
        rfl
  · simp only [if_neg c] at hi
    obtain ⟨w, ma, hw⟩ : ∃ w : Int, fX10_areAlike n μ = some w ∧ (w = 0 ∨ w = 1) := by
      obtain ⟨w, h1, h2⟩ := m_areAlike hn R.2.2.1.2.2.1 R.1.1 R.2.2.1.2.2.2 R.1.2.1
      refine ⟨w, h1, ?_⟩
      rcases h2 with h2 | h2
      · exact Or.inr h2.1
      · exact Or.inl h2.1
    obtain ⟨μ6, k1, k2, k3⟩ := m_good20 (μ := μ) (b := w) hw
    refine JT.mk (k := 1) (b := 0) R ?_ (FC.rf μ) ?_ k2.n (R.2.2.1.kp (k2.1 79 (by decide))) k3 (fun z => absurd z (by decide))
    · unfold fL_follow fX9_follow
      rw [hq.w]
      by_cases c1 : q < 0
      · rw [if_pos c1]
        rfl
      · rw [if_neg c1, if_pos (by omega)]
        rfl
    · unfold fX10_follow
      rw [hi, obs, ma, obs, k1]
      rfl
theorem j_setMode {q : Int} (hn : 5000 ≤ n) (R : RR μ e p h E) (hq : I32 q) : JT (fun x => x) (fL_setMode n q) (fX10_setMode n q) μ := by
  have hm := R.1.mr
  have a1 := x_cm (μ := μ) hq
  have hi : ∀ ν, fX10_isIn q 0 2 ν = some (if 0 ≤ q ∧ q ≤ 2 then 1 else 0) := fun ν => m_isInG hq ⟨by omega, by omega⟩ ⟨by omega, by omega⟩
  by_cases c : 0 ≤ q ∧ q ≤ 2
  · rw [if_pos c] at a1
    simp only [if_pos c] at hi
    obtain ⟨μr, r1, r2, r3, r4, r5⟩ := x_rem hn R (FC.rf μ)
    have fr : Fr [0] μr (up μr 0 11 q) := Fr.up (by simp)
    have X1 : CX (up μr 0 11 q) (e.1, q, e.2.2.1, e.2.2.2) := ⟨r3.1.kp (fr 11 (by decide)) (fr 12 (by decide)), r3.2.1.kp (fr 13 (by decide)) (fr 14 (by decide)), rd_at.trans (wr_id (by omega) (by omega))⟩
    have H1 : HX (up μr 0 11 q) ((p + 1) % 10) (min (h + 1) 10) (push E h e) := r2.kp (fr 32 (by decide)) (fun a i1 i2 => fr a (by simp; omega))
    have fX : XK μ (up μr 0 11 q) := r4.tr (fr.xk (by decide))
    obtain ⟨M1, M2⟩ := (fX.tr (XK.at92 (up μr 0 11 q) e.2.1)).m R
    generalize hμ : up (up μr 0 11 q) 92 0 e.2.1 = μ4 at *
    obtain ⟨μ7, i1, i2, i3, i4, i5⟩ := m_rem hn (CM4 M1 0) (M2.at4 0)
    have f7 : Fr [79] μ7 (up μ7 79 1 q) := Fr.up (by simp)
    have M3 : CM (up μ7 79 1 q) (e.1, q, e.2.2.1, e.2.2.2) := by
      refine ⟨(rd_ni (by decide)).trans i3.1, rd_at.trans (wr_id (by omega) (by omega)), fun u v hu hv => ?_, fun u v hu hv => ?_⟩
      · rw [rd_ni (by omega)]
        exact i3.2.2.1 u v hu hv
      · rw [rd_ni (by omega)]
        exact i3.2.2.2 u v hu hv
    have em : fX10_setMode n q μ4 = some (e.2.1, up μ7 79 1 q) := by
      unfold fX10_setMode
      rw [hi, obs, m_good1 rfl, obs, if_neg n1w, i1, obs, qLd_in (by omega), obs, i3.2.1, qSa_in (by omega)]
      rfl
    have fm : MJ μ4 (up μ7 79 1 q) := ((t4_mj 0).tr i4).tr (f7.mj (by decide))
    subst hμ
    refine JT.mut (e' := (e.1, q, e.2.2.1, e.2.2.2)) (v := e.2.1) (b := e.2.1) R ⟨R.1.1, R.1.2.1, c⟩ ?_ ⟨by omega, by omega⟩ X1 H1 fX em rfl M3 (i2.mj (rd_cg (f7 78 (by decide)) 3) (f7 81 (by decide))) fm ((rd_cg (f7 78 (by decide)) 4).trans (i5.trans rd_at)) R.pe
    unfold fL_setMode fX9_setMode
    rw [a1, obs, Sum.elim_inl, r1, obs, qPf_eq, obs, obs, Sum.elim_inl, r3.2.2, put92]
    rfl
  · rw [if_neg c] at a1
    simp only [if_neg c] at hi
    refine JT.mk (k := 1) (b := 0) R ?_ (FC.rf μ) ?_ (FN.t4 _ 1) (R.2.2.1.kp (up_ne (by decide))) rd_at (fun z => absurd z (by decide))
    · unfold fL_setMode fX9_setMode
      rw [a1]
      rfl
    · unfold fX10_setMode
      rw [hi, obs, m_good0 rfl]
      rfl
end MU2
