/-! THE WHOLE TEXT -/
noncomputable def pst (b : Int → Int) (e s : Int) (st : qEn) : pO := @ite _ (isW b e s 1000002) (Classical.propDecidable _) (pedg b e 2 s st) (@ite _ (isW b e s 1000003) (Classical.propDecidable _) (pedg b e 66 s st) (@ite _ (isW b e s 1000004) (Classical.propDecidable _) (pmod b e s st) (.inl (er b e s 2))))
noncomputable def ps1 (b : Int → Int) (e s : Int) : pO := @ite _ (isW b e s 1000000) (Classical.propDecidable _) (pver b e s) (@ite _ (isW b e s 1000001) (Classical.propDecidable _) (pdeg b e s) (.inl (er b e s 2)))
noncomputable def pall (b : Int → Int) (e : Int) : Nat → Int → qEn → (Int × Int) ⊕ qEn
  | 0, _, _ => .inl (0, 0)
  | k + 1, s, st => if tkK b e s = 0 then .inr st else pbd (pcl b e (pst b e s st)) fun x => pall b e k (nx b e x.1) x.2
noncomputable def ptx (b : Int → Int) (e : Int) : (Int × Int) ⊕ qEn := if tkK b e (tkS b e 0) = 0 then .inr (1, 0, zc, zc) else pbd (pcl b e (ps1 b e (tkS b e 0))) fun x => pall b e 401 (nx b e x.1) x.2
theorem qsl_8 : qsl 1000000 ≤ 8 ∧ qsl 1000001 ≤ 8 ∧ qsl 1000002 ≤ 8 ∧ qsl 1000003 ≤ 8 ∧ qsl 1000004 ≤ 8 ∧ True := by decide +kernel
theorem pbd_r {α β : Type} {x : (Int × Int) ⊕ α} {f : α → (Int × Int) ⊕ β} {y : β} (h : pbd x f = .inr y) : ∃ a, x = .inr a ∧ f a = .inr y := by
  cases x with
  | inl p => cases h
  | inr a => exact ⟨a, rfl, h⟩
theorem pcl_r {b : Int → Int} {e : Int} {o : pO} {x : Int × qEn} (h : pcl b e o = .inr x) : o = .inr x ∧ tkK b e x.1 = 3 := by
  obtain ⟨a, h1, h2⟩ := pbd_r h
  by_cases q : tkK b e a.1 = 3
  · rw [if_pos q] at h2
    cases h2
    exact ⟨h1, q⟩
  · rw [if_neg q] at h2
    cases h2
theorem pnum_r {b : Int → Int} {e s lo hi v : Int} (h : pnum b e s lo hi = .inr v) : lo ≤ v ∧ v ≤ hi := by
  unfold pnum at h
  by_cases q : tkK b e s = 2
  · rw [if_pos q] at h
    by_cases q2 : tkV b e s < lo ∨ hi < tkV b e s
    · rw [if_pos q2] at h
      cases h
    · rw [if_neg q2] at h
      cases h
      omega
  · rw [if_neg q] at h
    cases h
section OKS
variable {b : Int → Int} {e s s' : Int} {st st' : qEn}
theorem nx_g (hs : 0 ≤ s ∧ s ≤ e) : s ≤ nx b e s := by
  have h5 := tkE_r (b := b) hs
  have h6 := tkS_r (b := b) (e := e) (p := tkE b e s) (by omega)
  unfold nx
  omega
theorem pver_ok (hs : 0 ≤ s ∧ s ≤ e) (h : pver b e s = .inr (s', st')) : (s ≤ s' ∧ s' ≤ e) ∧ EV st' := by
  obtain ⟨v, h1, h2⟩ := pbd_r h
  have hv := pnum_r h1
  cases h2
  have n1 := (nx_r (b := b) hs).1
  have n2 := (nx_r (b := b) n1).1
  have g1 := nx_g (b := b) hs
  have g2 := nx_g (b := b) n1
  exact ⟨by omega, Vd.zero (by omega), Vd.zero (by omega), Int.le_refl _, by show (0 : Int) ≤ 2; omega⟩
theorem pmod_ok (hs : 0 ≤ s ∧ s ≤ e) (hE : EV st) (h : pmod b e s st = .inr (s', st')) : (s ≤ s' ∧ s' ≤ e) ∧ EV st' := by
  obtain ⟨v, h1, h2⟩ := pbd_r h
  have hv := pnum_r h1
  cases h2
  have n1 := (nx_r (b := b) hs).1
  have n2 := (nx_r (b := b) n1).1
  have g1 := nx_g (b := b) hs
  have g2 := nx_g (b := b) n1
  exact ⟨by omega, hE.1, hE.2.1, hv.1, hv.2⟩
theorem pedg_ok {T : Int} (hs : 0 ≤ s ∧ s ≤ e) (hE : EV st) (h : pedg b e T s st = .inr (s', st')) : (s ≤ s' ∧ s' ≤ e) ∧ EV st' := by
  obtain ⟨u, h1, h2⟩ := pbd_r h
  obtain ⟨v, h3, h4⟩ := pbd_r h2
  have hu := pnum_r h1
  have hv := pnum_r h3
  have n1 := (nx_r (b := b) hs).1
  have n2 := (nx_r (b := b) n1).1
  have n3 := (nx_r (b := b) n2).1
  have n4 := (nx_r (b := b) n3).1
  have g1 := nx_g (b := b) hs
  have g2 := nx_g (b := b) n1
  have g3 := nx_g (b := b) n2
  have g4 := nx_g (b := b) n3
  by_cases c1 : tkK b e (nx b e (nx b e (nx b e s))) = 2
  · rw [if_pos c1] at h4
    obtain ⟨k, h5, h6⟩ := pbd_r h4
    have hk := pnum_r h5
    by_cases c2 : 16 < Ed (cT T st) + k
    · rw [if_pos c2] at h6
      cases h6
    · rw [if_neg c2] at h6
      cases h6
      exact ⟨by omega, ste_ev hE (by omega) (by omega) (by omega) c2⟩
  · rw [if_neg c1] at h4
    by_cases c3 : tkK b e (nx b e (nx b e (nx b e s))) = 3
    · rw [if_pos c3] at h4
      by_cases c2 : 16 < Ed (cT T st) + 1
      · rw [if_pos c2] at h4
        cases h4
      · rw [if_neg c2] at h4
        cases h4
        exact ⟨by omega, ste_ev hE (by omega) (by omega) (by omega) c2⟩
    · rw [if_neg c3] at h4
      cases h4
theorem pdg_ok : ∀ (k i N : Nat), i + k = 9 → pdg b e s k i = .inr N → 1 ≤ N ∧ N ≤ 8
  | 0, _, _, _, h => by cases h
  | k + 1, i, N, hk, h => by
    by_cases c : i = 0 ∨ tkK b e (tki b e s i) = 2
    · have e1 : pdg b e s (k + 1) i = pbd (pnum b e (tki b e s i) 0 32) (fun _ => if i = 8 then .inl (er b e (tki b e s i) 5) else pdg b e s k (i + 1)) := if_pos c
      rw [e1] at h
      obtain ⟨v, h1, h2⟩ := pbd_r h
      by_cases c2 : i = 8
      · rw [if_pos c2] at h2
        cases h2
      · rw [if_neg c2] at h2
        exact pdg_ok k (i + 1) N (by omega) h2
    · have e1 : pdg b e s (k + 1) i = .inr i := if_neg c
      rw [e1] at h
      cases h
      have : ¬ i = 0 := fun q => c (Or.inl q)
      omega
theorem pdeg_ok (hs : 0 ≤ s ∧ s ≤ e) (h : pcl b e (pdeg b e s) = .inr (s', st')) : (s ≤ s' ∧ s' ≤ e) ∧ EV st' := by
  obtain ⟨h1, h2⟩ := pcl_r h
  obtain ⟨N, h3, h4⟩ := pbd_r h1
  have hN := pdg_ok 9 0 N rfl h3
  by_cases c : tkK b e (tki b e s N) = 3 ∧ (rs (dgt b e s) 0 (N : Int) % 2 = 1 ∨ 32 < rs (dgt b e s) 0 (N : Int))
  · rw [if_pos c] at h4
    cases h4
  · rw [if_neg c] at h4
    cases h4
    have h2' : tkK b e (tki b e s N) = 3 := h2
    have c2 : ¬ (rs (dgt b e s) 0 (N : Int) % 2 = 1 ∨ 32 < rs (dgt b e s) 0 (N : Int)) := fun q => c ⟨h2', q⟩
    have g1 := tki_r (b := b) hs N
    have g2 := (tki_g (b := b) hs N).1
    have hB := b0_ok (l := dgt b e s) (fun i => by have := dgt_r b e s i; omega) N hN.2
    exact ⟨by omega, hB.vd hN (by omega) (by omega), Vd.zero (by omega), Int.le_refl _, by show (0 : Int) ≤ 2; omega⟩
theorem pst_ok (hs : 0 ≤ s ∧ s ≤ e) (hE : EV st) (h : pcl b e (pst b e s st) = .inr (s', st')) : (s ≤ s' ∧ s' < e) ∧ tkK b e s' = 3 ∧ EV st' := by
  obtain ⟨h1, h2⟩ := pcl_r h
  have h3 : s' < e := tkK_lt (b := b) (e := e) (s := s') (by rw [show tkK b e s' = 3 from h2]; omega)
  have h4 : (s ≤ s' ∧ s' ≤ e) ∧ EV st' := by
    unfold pst at h1
    by_cases c1 : isW b e s 1000002
    · rw [if_pos c1] at h1
      exact pedg_ok hs hE h1
    · rw [if_neg c1] at h1
      by_cases c2 : isW b e s 1000003
      · rw [if_pos c2] at h1
        exact pedg_ok hs hE h1
      · rw [if_neg c2] at h1
        by_cases c3 : isW b e s 1000004
        · rw [if_pos c3] at h1
          exact pmod_ok hs hE h1
        · rw [if_neg c3] at h1
          cases h1
  exact ⟨⟨h4.1.1, h3⟩, h2, h4.2⟩
theorem ps1_ok (hs : 0 ≤ s ∧ s ≤ e) (h : pcl b e (ps1 b e s) = .inr (s', st')) : (s ≤ s' ∧ s' < e) ∧ tkK b e s' = 3 ∧ EV st' := by
  obtain ⟨h1, h2⟩ := pcl_r h
  have h3 : s' < e := tkK_lt (b := b) (e := e) (s := s') (by rw [show tkK b e s' = 3 from h2]; omega)
  have h4 : (s ≤ s' ∧ s' ≤ e) ∧ EV st' := by
    unfold ps1 at h1 h
    by_cases c1 : isW b e s 1000000
    · rw [if_pos c1] at h1
      exact pver_ok hs h1
    · rw [if_neg c1] at h1 h
      by_cases c2 : isW b e s 1000001
      · rw [if_pos c2] at h
        exact pdeg_ok hs h
      · rw [if_neg c2] at h1
        cases h1
  exact ⟨⟨h4.1.1, h3⟩, h2, h4.2⟩
theorem pall_ok : ∀ (k : Nat) (s : Int) (st : qEn), (0 ≤ s ∧ s ≤ e) → EV st → pall b e k s st = .inr st' → EV st'
  | 0, _, _, _, _, h => by cases h
  | k + 1, s, st, hs, hE, h => by
    by_cases c : tkK b e s = 0
    · have e1 : pall b e (k + 1) s st = .inr st := if_pos c
      rw [e1] at h
      cases h
      exact hE
    · have e1 : pall b e (k + 1) s st = pbd (pcl b e (pst b e s st)) fun x => pall b e k (nx b e x.1) x.2 := if_neg c
      rw [e1] at h
      obtain ⟨⟨s1, st1⟩, h1, h2⟩ := pbd_r h
      obtain ⟨h3, h4, h5⟩ := pst_ok hs hE h1
      exact pall_ok k _ _ (nx_r (b := b) (s := s1) (by omega)).1 h5 h2
theorem ptx_ok (he : 0 ≤ e) (h : ptx b e = .inr st') : EV st' := by
  unfold ptx at h
  have h0 := tkS_r (b := b) (e := e) (p := 0) (by omega)
  by_cases c : tkK b e (tkS b e 0) = 0
  · rw [if_pos c] at h
    cases h
    exact ⟨Vd.zero (by omega), Vd.zero (by omega), Int.le_refl _, by show (0 : Int) ≤ 2; omega⟩
  · rw [if_neg c] at h
    obtain ⟨⟨s1, st1⟩, h1, h2⟩ := pbd_r h
    obtain ⟨h3, h4, h5⟩ := ps1_ok (by omega) h1
    exact pall_ok 401 _ _ (nx_r (b := b) (s := s1) (by omega)).1 h5 h2
end OKS
section PAR
variable {μ : qMu} {n : Nat} {b : Int → Int} {e s : Int} {st : qEn}
theorem XO.ret {o : pO} {r : Option (Int × qMu)} (h : XO o b e μ r) : XO o b e μ (r.bind fun y => (qbl y.1).bind fun x => some (x, y.2)) := by
  obtain ⟨μ1, f, ⟨p, h1, rfl, h3⟩ | ⟨s, st, h1, rfl, h3⟩⟩ := h
  · exact ⟨μ1, f, Or.inl ⟨p, h1, rfl, h3⟩⟩
  · exact ⟨μ1, f, Or.inr ⟨s, st, h1, rfl, h3⟩⟩
theorem MO.ret {o : pO} {r : Option (Int × qMu)} (h : MO o b e μ r) : MO o b e μ (r.bind fun y => (qbl y.1).bind fun x => some (x, y.2)) := by
  obtain ⟨μ1, f, ⟨p, h1, rfl, h3⟩ | ⟨s, st, h1, h2, rfl, h3⟩⟩ := h
  · exact ⟨μ1, f, Or.inl ⟨p, h1, rfl, h3⟩⟩
  · exact ⟨μ1, f, Or.inr ⟨s, st, h1, h2, rfl, h3⟩⟩
theorem x_other (hn : 5000 ≤ n) (hb : TB b e) (hs : 0 ≤ s ∧ s ≤ e) (hP : PX μ b e s st) (hE : EV st) : XO (pcl b e (pst b e s st)) b e μ (fX5_readOther n μ) := by
  have h1 := hb.1
  have h8 := qsl_8
  unfold pst
  obtain ⟨r1, a1, a2⟩ := x_isWord hn hP.1 hb hs hP.2.1 h8.2.2.1
  obtain ⟨r2, b1, b2⟩ := x_isWord hn hP.1 hb hs hP.2.1 h8.2.2.2.1
  obtain ⟨r3, d1, d2⟩ := x_isWord hn hP.1 hb hs hP.2.1 h8.2.2.2.2.1
  rcases a2 with ⟨rfl, a2⟩ | ⟨rfl, a2⟩
  · rw [if_pos a2]
    have e1 : fX5_readOther n μ = (fX5_readEdge n 3 μ).bind fun y => (qbl y.1).bind fun x => some (x, y.2) := by
      simp (disch := omega) only [ite_true, fX5_readOther, a1, Option.bind_some, wr_id, if_neg]
    rw [e1]
    exact (x_edge hn hb hs hP hE (Or.inl ⟨rfl, rfl⟩)).ret
  · rw [if_neg a2]
    rcases b2 with ⟨rfl, b2⟩ | ⟨rfl, b2⟩
    · rw [if_pos b2]
      have e1 : fX5_readOther n μ = (fX5_readEdge n 5 μ).bind fun y => (qbl y.1).bind fun x => some (x, y.2) := by
        simp (disch := omega) only [ite_true, fX5_readOther, a1, b1, Option.bind_some, wr_id, if_neg, if_pos]
      rw [e1]
      exact (x_edge hn hb hs hP hE (Or.inr ⟨rfl, rfl⟩)).ret
    · rw [if_neg b2]
      rcases d2 with ⟨rfl, d2⟩ | ⟨rfl, d2⟩
      · rw [if_pos d2]
        have e1 : fX5_readOther n μ = (fX5_readModeNumber n μ).bind fun y => (qbl y.1).bind fun x => some (x, y.2) := by
          simp (disch := omega) only [ite_true, fX5_readOther, a1, b1, d1, Option.bind_some, wr_id, if_neg, if_pos]
        rw [e1]
        exact (x_mod hn hb hs hP).ret
      · rw [if_neg d2]
        obtain ⟨μ1, m1, m2, m3⟩ := x_fail hP.2.1 (by omega) (w := 2) (by omega)
        refine XO.fail (m3.fx (by decide) (by decide)) (p := er b e s 2) rfl ?_ m2
        simp (disch := omega) only [ite_true, fX5_readOther, a1, b1, d1, m1, Option.bind_some, wr_id, if_pos]
        rfl
/-- what a text comes to: class, reference -/
def XR (o : (Int × Int) ⊕ qEn) (μ : qMu) (r : Option (Int × qMu)) : Prop := ∃ μ', FX μ μ' ∧ ((∃ p, o = .inl p ∧ r = some (0, μ') ∧ XE μ' p) ∨ ∃ st, o = .inr st ∧ r = some (1, μ') ∧ GY μ' 3 st.1 st.2.2.1 ∧ GY μ' 5 st.1 st.2.2.2 ∧ rd μ' 1 4 = st.2.1 ∧ XE μ' (0, -1))
def MR (o : (Int × Int) ⊕ qEn) (μ : qMu) (r : Option (Int × qMu)) : Prop := ∃ μ', FM μ μ' ∧ ((∃ p, o = .inl p ∧ r = some (0, μ') ∧ ME μ' p) ∨ ∃ st, o = .inr st ∧ r = some (1, μ') ∧ CM μ' st ∧ ME μ' (0, -1))
theorem XR.tr {o : (Int × Int) ⊕ qEn} {μ1 : qMu} {r : Option (Int × qMu)} (f : FX μ μ1) (h : XR o μ1 r) : XR o μ r := by
  obtain ⟨μ2, f2, h⟩ := h
  exact ⟨μ2, f.tr f2, h⟩
theorem MR.tr {o : (Int × Int) ⊕ qEn} {μ1 : qMu} {r : Option (Int × qMu)} (f : FM μ μ1) (h : MR o μ1 r) : MR o μ r := by
  obtain ⟨μ2, f2, h⟩ := h
  exact ⟨μ2, f.tr f2, h⟩
theorem x_stop {z3 : Int} {m : Nat} {ξ : qMu} : lp (fun x : Int × Int × qMu => bX5_readText_48 n x.1 x.2.1 x.2.2) (m + 1) (0, z3, ξ) = some (0, ξ) := by
  rw [lp_s]
  have e1 : bX5_readText_48 n 0 z3 ξ = some (.inr (0, ξ)) := by
    by_cases q : wr z3 < 400
    · simp (disch := omega) only [ite_true, bX5_readText_48, if_pos q, wr_id, if_pos]
    · simp only [bX5_readText_48, if_neg q]
  dsimp only
  rw [e1]
  rfl
theorem x_stop0 {z3 : Int} {m : Nat} {ξ : qMu} (h : rd ξ 1 9 = 0) : lp (fun x : Int × Int × qMu => bX5_readText_48 n x.1 x.2.1 x.2.2) (m + 1) (1, z3, ξ) = some (1, ξ) := by
  rw [lp_s]
  have e1 : bX5_readText_48 n 1 z3 ξ = some (.inr (1, ξ)) := by
    by_cases q : wr z3 < 400
    · simp (disch := omega) only [ite_true, bX5_readText_48, if_pos q, h, wr_id, if_pos, if_neg]
    · simp only [bX5_readText_48, if_neg q]
  dsimp only
  rw [e1]
  rfl
theorem x_rest (hn : 5000 ≤ n) (hb : TB b e) : ∀ (k m : Nat) (s : Int) (st : qEn) (z3 : Int) (ξ : qMu), (0 ≤ s ∧ s ≤ e) → e - nx b e s < (k : Int) → k + 2 ≤ m → PX ξ b e s st → EV st → tkK b e s = 3 → (0 ≤ z3 ∧ z3 ≤ s) → XR (pall b e k (nx b e s) st) ξ (lp (fun x : Int × Int × qMu => bX5_readText_48 n x.1 x.2.1 x.2.2) m (1, z3, ξ)) := by
  intro k
  induction k with
  | zero =>
    intro m s st z3 ξ hs hk
    have := (nx_r (b := b) hs).1
    omega
  | succ k ih =>
    intro m s st z3 ξ hs hk hm hP hE h3 hz
    obtain ⟨m, rfl⟩ : ∃ m', m = m' + 2 := ⟨m - 2, by omega⟩
    have h1 := hb.1
    have n1 := nx_r (b := b) hs
    have hlt : s < e := tkK_lt (b := b) (by omega)
    have n2 := n1.2 hlt
    have k3 := hP.2.1.2.2.1
    rw [h3] at k3
    obtain ⟨μ1, a1, a2, a3⟩ := x_adv hn hb hP.1 hs hP.2.1
    have p1 := hP.ad a2 a3
    have f1 : FX ξ μ1 := a3.fx (by decide) (by decide)
    have k4 := a2.2.2.1
    have hkr := tkK_r b e (nx b e s)
    by_cases c : tkK b e (nx b e s) = 0
    · have e1 : pall b e (k + 1) (nx b e s) st = .inr st := if_pos c
      rw [e1]
      rw [c] at k4
      have eb : bX5_readText_48 n 1 z3 ξ = some (.inl (1, z3 + 1, μ1)) := by
        simp (disch := omega) only [ite_true, bX5_readText_48, k3, a1, k4, wr_id, if_pos, if_neg, Option.bind_some]
      refine ⟨μ1, f1, Or.inr ⟨st, rfl, ?_, p1.2.2.1, p1.2.2.2.1, p1.2.2.2.2.1, p1.2.2.2.2.2⟩⟩
      rw [lp_s]
      dsimp only
      rw [eb, obs]
      exact x_stop0 k4
    · have e1 : pall b e (k + 1) (nx b e s) st = pbd (pcl b e (pst b e (nx b e s) st)) fun x => pall b e k (nx b e x.1) x.2 := if_neg c
      rw [e1]
      obtain ⟨μ2, f2, ⟨p, d1, d2, d3⟩ | ⟨s1, st1, d1, d2, d3⟩⟩ := x_other hn hb n1.1 p1 hE
      · have eb : bX5_readText_48 n 1 z3 ξ = some (.inl (0, z3 + 1, μ2)) := by
          simp (disch := omega) only [ite_true, bX5_readText_48, k3, a1, k4, d2, wr_id, if_pos, if_neg, Option.bind_some]
        refine ⟨μ2, f1.tr f2, Or.inl ⟨p, by rw [d1]; rfl, ?_, d3⟩⟩
        rw [lp_s]
        dsimp only
        rw [eb, obs]
        exact x_stop
      · obtain ⟨g1, g2, g3⟩ := pst_ok n1.1 hE d1
        have g4 := nx_r (b := b) (e := e) (s := s1) (by omega)
        have g5 := g4.2 g1.2
        have eb : bX5_readText_48 n 1 z3 ξ = some (.inl (1, z3 + 1, μ2)) := by
          simp (disch := omega) only [ite_true, bX5_readText_48, k3, a1, k4, d2, wr_id, if_pos, if_neg, Option.bind_some]
        rw [d1]
        have := ih (m + 1) s1 st1 (z3 + 1) μ2 (by omega) (by omega) (by omega) d3 g3 g2 (by omega)
        have elp : lp (fun x : Int × Int × qMu => bX5_readText_48 n x.1 x.2.1 x.2.2) (m + 2) (1, z3, ξ) = lp (fun x : Int × Int × qMu => bX5_readText_48 n x.1 x.2.1 x.2.2) (m + 1) (1, z3 + 1, μ2) := by
          rw [lp_s]
          dsimp only
          rw [eb]
          rfl
        rw [elp]
        exact XR.tr (f1.tr f2) this
end PAR
