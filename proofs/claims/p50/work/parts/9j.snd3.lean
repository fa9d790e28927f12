theorem qcl_nm {ci : Nat} {q : vw_C} (h : qKs[ci]? = some q) : q.1 = qNm (ci + 1) := by
  match ci, h with
  | 0, h => cases h; rfl
  | 1, h => cases h; rfl
  | 2, h => cases h; rfl
  | 3, h => cases h; rfl
  | 4, h => cases h; rfl
  | 5, h => cases h; rfl
  | 6, h => cases h; rfl
  | 7, h => cases h; rfl
  | 8, h => cases h; rfl
  | 9, h => cases h; rfl
  | 10, h => cases h; rfl
  | 11, h => cases h; rfl
  | k + 12, h => simp [qKs] at h
theorem qTk_ok {c i E : Nat} (h : qTk c i = some E) : (c, i, E) ∈ qTkL := by
  unfold qTk at h
  cases hf : qTkL.find? (fun e => e.1 == c && e.2.1 == i) with
  | none => rw [hf] at h; cases h
  | some e =>
    rw [hf] at h
    have hm := List.mem_of_find?_eq_some hf
    have hp := List.find?_some hf
    simp only [Bool.and_eq_true, beq_iff_eq] at hp
    have h2 : e.2.2 = E := Option.some.inj h
    obtain ⟨e1, e2, e3⟩ := e
    dsimp only at hp h2
    obtain ⟨rfl, rfl⟩ := hp
    subst h2
    exact hm
theorem qTkL_ok : qTkL.all (fun e => decide (e.2.2 < 3) && decide (e.2.1 ≠ 0)) = true := by decide +kernel
theorem qhan_ok {M : qM} {pc E h : Nat} : ∀ (hs : List (Nat × Nat × Nat × Nat)), qhan M pc E hs = some h → ∃ pre a b ct suf, hs = pre ++ (a, b, h, ct) :: suf ∧ (a ≤ pc ∧ pc < b) ∧ qTk M.1 ct = some E ∧ ∀ z ∈ pre, ¬ (z.1 ≤ pc ∧ pc < z.2.1) ∨ ∃ E', qTk M.1 z.2.2.2 = some E' ∧ E' ≠ E
  | [], hq => by cases hq
  | (a, b, h0, ct) :: r, hq => by
    unfold qhan at hq
    split at hq
    · rename_i hc
      split at hq
      · rename_i E' hE
        split at hq
        · rename_i hEE
          cases hq
          subst hEE
          exact ⟨[], a, b, ct, r, rfl, hc, hE, fun z hz => by cases hz⟩
        · rename_i hne
          obtain ⟨pre, a1, b1, ct1, suf, e1, e2, e3, e4⟩ := qhan_ok r hq
          refine ⟨(a, b, h0, ct) :: pre, a1, b1, ct1, suf, by rw [e1]; rfl, e2, e3, fun z hz => ?_⟩
          rcases List.mem_cons.mp hz with rfl | hz
          · exact Or.inr ⟨E', hE, hne⟩
          · exact e4 z hz
      · cases hq
    · rename_i hc
      obtain ⟨pre, a1, b1, ct1, suf, e1, e2, e3, e4⟩ := qhan_ok r hq
      refine ⟨(a, b, h0, ct) :: pre, a1, b1, ct1, suf, by rw [e1]; rfl, e2, e3, fun z hz => ?_⟩
      rcases List.mem_cons.mp hz with rfl | hz
      · exact Or.inl hc
      · exact e4 z hz
theorem qTc16_ok {c i n : Nat} {C : qM} (h : (c, i, 16, C, n) ∈ qTcL) : C.1 = 12 ∧ C.2.1 = yJ4_length_8abf5 := by
  have h1 : qTcL.all (fun e => decide (e.2.2.1 ≠ 16) || (decide (e.2.2.2.1.1 = 12) && decide (e.2.2.2.1.2.1 = yJ4_length_8abf5))) = true := by decide +kernel
  have h2 := List.all_eq_true.mp h1 _ h
  simp only [Bool.or_eq_true, Bool.and_eq_true, decide_eq_true_eq] at h2
  rcases h2 with h2 | h2
  · exact absurd rfl h2
  · exact h2
theorem qTc11_ok {c i n : Nat} {C : qM} (h : (c, i, 11, C, n) ∈ qTcL) : C.2.1.name ≠ "<init>" := by
  have h1 : qTcL.all (fun e => decide (e.2.2.1 ≠ 11) || decide (e.2.2.2.1.2.1.name ≠ "<init>")) = true := by decide +kernel
  have h2 := List.all_eq_true.mp h1 _ h
  simp only [Bool.or_eq_true, decide_eq_true_eq] at h2
  rcases h2 with h2 | h2
  · exact absurd rfl h2
  · exact h2
/-- a call of the small machine is a call of the machine -/
theorem qcallrun {l : Launch} {G : qG} (hst : l.stackTraces = false) {n : Nat} (ih : qSndAt l G n) {d : Nat} {M C : qM} {pc i len : Nat} {ins : Instr} {L : qLo} {as rest st : List Value} {s s1 : qSt} {o1 : qO} {p : Program} {e : Env} {R : Room} {s0 : State} {m : MethodId} {args : Array Value} {below : List Frame} {meth : Method} {c : Code} {H : Heap} {locs : List Loc} {cells slots : Nat} {ls : Array Slot}
    (hC : qCx G M p s0 m args meth c) (hfr : d + 1 + 8 ≤ R.frames) (hlo : 60 * (d + 1) + 200 ≤ R.locals) (hL : qLs G ls M.2.2.2.1 L) (hR : qRel G s H) (hlc : ∀ z ∈ locs, G.1 ≤ z.base)
    (hcE : cells + (s1.1 + s1.2.1) ≤ R.cells + (s.1 + s.2.1)) (hsE : slots + s1.2.2.1 ≤ R.slots + s.2.2.1) (hd : decode M.2.2.1 pc = .ok (ins, len)) (hs : qStep M pc ins len L st s = some (.inr (.inr (i, C, as, rest)))) (hok : qok C as = true) (hcal : qExec n d C 0 (qen C.2.2.2.1 as) [] s = some (o1, s1)) (hx0 : ∀ k, o1 = .inr k → C.2.2.2.2.2 = []) :
    vx_Run p l e R s0 m args below meth c H locs cells slots (s1.1 + s1.2.1 - (s.1 + s.2.1)) (s1.2.2.1 - s.2.2.1) (F0 m pc ls (st.map (qV G))) (rest.map (qV G)) (qQc G o1 s1 #[]) (qXC G o1 s1) (qA G) := by
  have hmono := qexec_mono _ _ _ _ _ _ _ _ _ hcal
  obtain ⟨hx, hb, hml, hnm, hown, hts, hret, hlk, hTB, hH0⟩ := hC
  obtain ⟨hlen, hcat, mo, nn, hmem, hform⟩ := qcall_ok hs
  subst hlen
  have hmo : mo < 5 ∨ mo = 10 ∨ mo = 11 ∨ mo = 12 ∨ mo = 15 ∨ mo = 16 := by
    rcases hform with ⟨-, h | h, -⟩ | ⟨-, h | h | h, -⟩ | ⟨-, h | h, -⟩ | ⟨-, h, -⟩ | ⟨-, h | h, -⟩ <;> omega
  obtain ⟨k1, k2, k3, k4, k5, k6, k7⟩ := qcallee hmem hmo
  have hM := qTcM_in hmem
  have hmet := qmet hst ih hcal hok k1 k2 hx0
  have hcat' := lv_room (m := m) (pc := pc) (ls := ls) (rest := st.map (qV G)) (qcat_ok (G := G) hcat)
  have hPt : ∀ U : State, U.heap = H → s0.WarmedH U.vm → qTB G U ∧ qRel G s U.heap := fun U hU hW => ⟨qTB.warm hTB hW, by rw [hU]; exact hR⟩
  have hlenp : ∀ sig, parseMethodDescriptor C.2.1.desc = some sig → nn = sig.parameters.length := by
    intro sig h
    rw [h] at k4
    exact (Option.some.inj k4).symm
  have hgood : ∀ (hin : qcw C ∈ wsL_law), GoodIn wsL_law (qws C) := by
    intro hin w hw
    rcases List.mem_cons.mp hw with rfl | hw
    · exact ⟨hin, (wsL_law_g _ hin).2⟩
    · exact ⟨hw, (wsL_law_g _ hw).2⟩
  have hrec0 : ∀ (a ci : Nat), qcls s a = some ci → qPm a < s.1 ∧ ∃ cell : Cell, H[G.1 + qPm a]? = some cell ∧ cell.vm.isStatics = false ∧ s0.vm.findClass (qNm (ci + 1)) = some cell.cls := by
    intro a ci hci
    obtain ⟨fs, hfs, ha⟩ := qcls_ok hci
    have hw' := qW_at (G := G) ha
    rw [hfs] at hw'
    obtain ⟨q, hq, -⟩ := hR.2.2.2.1 (qPm a) _ hw'
    have hr := va_recv hTB.1 hR.2.2.2.1 hq hw'
    rw [qcl_nm hq] at hr
    exact ⟨ha, hr⟩
  have hrecx : ∀ (a ci : Nat), qclx s a = some ci → ∃ cell : Cell, H[qad G a]? = some cell ∧ cell.vm.isStatics = false ∧ s0.vm.findClass (qNm (ci + 1)) = some cell.cls := by
    intro a ci hci
    unfold qclx at hci
    split at hci
    · rename_i c0 hc0
      cases hci
      obtain ⟨ha, hr⟩ := hrec0 a ci hc0
      rw [qRel_lt hR ha]
      exact hr
    · split at hci
      · rename_i hj
        cases hci
        have hr := qistr_rg hj
        obtain ⟨z1, -, -, -⟩ := qJSh hTB hR.2.2.2.2.1 (j := a - 1000000) (by omega)
        obtain ⟨cell, g1, g2, g3, -⟩ := z1
        rw [qad_str hr.1]
        exact ⟨cell, g1, g2, g3⟩
      · cases hci
  have hrec : ∀ (a ci : Nat), qcls s a = some ci → ci + 1 = C.1 → qPm a < s.1 ∧ ∃ cell : Cell, H[G.1 + qPm a]? = some cell ∧ cell.vm.isStatics = false ∧ s0.vm.findClass C.2.1.cls = some cell.cls := by
    intro a ci hci hC1
    have hr := hrec0 a ci hci
    rw [hC1, ← k1] at hr
    exact hr
  have hfo : 60 * d + 200 + 8 + (C.2.2.2.1 + 11) ≤ R.locals := by omega
  rcases hform with ⟨rfl, hm, hn, hst2⟩ | ⟨rfl, hm, a, as0, ci, rfl, hn, hst2, hci, hC1⟩ | ⟨rfl, hm, a, as0, ci, rfl, hn, hst2, hci, hC1⟩ | ⟨rfl, hm, a, as0, rfl, hn, hst2, hci⟩ | ⟨rfl, hm, a, as0, rfl, hn, hst2, hci⟩
  · have hstack : (F0 m pc ls (st.map (qV G))).stack = (as.map (qV G)).reverse ++ rest.map (qV G) := by
      show st.map (qV G) = _
      rw [hst2, List.map_append, List.map_reverse]
    rcases hm with rfl | rfl
    · have hh : C.2.2.2.2.2 = [] := Classical.byContradiction fun z => absurd (k6.mpr z) (by decide)
      have hcw : qcw C = Cond.code C.2.1 C.2.2.1 C.2.2.2.1 C.2.2.2.2.1 := by unfold qcw; rw [hh]
      have hin : qcw C ∈ wsL_law := by rw [hcw]; exact qmap_in qTc1_c hM
      exact vx_runS (As := as.map (qV G)) (nL := M.2.2.2.1) (Ts := wsL_law) ⟨hx, hb, hml, hown, hts⟩ hmet ⟨⟨rfl, rfl, by show d + 8 + 1 ≤ _; omega, by show 8 + (C.2.2.2.1 + 11) + (60 * d + 200) ≤ _; omega, pay_in hts (hgood hin), by rw [← hcw]; exact List.mem_cons_self, by rw [← hcw]; exact hts _ hin, hts _ (qmap_in qTc1_n hM), k3, hlenp, hts _ (qmap_in qTc1_l hM)⟩, hts _ (qmap_in qTc1_s hM)⟩ ⟨qblind G s _, fun U hU hW => ⟨rfl, hPt U hU hW⟩⟩ rfl (by rw [List.length_map]; exact hn) hL.2.1 hstack hcat' hd ⟨by omega, by omega⟩
    · have hh : C.2.2.2.2.2 ≠ [] := k6.mp (Or.inl rfl)
      obtain ⟨h1, t1, hht⟩ : ∃ h1 t1, C.2.2.2.2.2 = h1 :: t1 := by
        cases hq : C.2.2.2.2.2 with
        | nil => exact absurd hq hh
        | cons x y => exact ⟨x, y, rfl⟩
      have hcw : qcw C = Cond.codeWith C.2.1 C.2.2.1 C.2.2.2.1 C.2.2.2.2.1 C.2.2.2.2.2 := by unfold qcw; rw [hht]
      have hin : qcw C ∈ wsL_law := by rw [hcw]; exact qmap_in qTc4_c hM
      exact vx_runSX (As := as.map (qV G)) (nL := M.2.2.2.1) (Ts := wsL_law) (hh := C.2.2.2.2.2) ⟨hx, hb, hml, hown, hts⟩ hmet ⟨⟨rfl, rfl, by show d + 8 + 1 ≤ _; omega, by show 8 + (C.2.2.2.1 + 11) + (60 * d + 200) ≤ _; omega, pay_in hts (hgood hin), by rw [← hcw]; exact List.mem_cons_self⟩, by rw [← hcw]; exact hts _ hin, hts _ (qmap_in qTc4_n hM), k3, hlenp, hts _ (qmap_in qTc4_l hM), hts _ (qmap_in qTc4_s hM)⟩ ⟨qblind G s _, fun U hU hW => ⟨rfl, hPt U hU hW⟩⟩ rfl (by rw [List.length_map]; exact hn) hL.2.1 hstack hcat' hd ⟨by omega, by omega⟩
  · obtain ⟨cell, g1, g2, g3⟩ := hrecx a ci hci
    rw [hC1] at g3
    have hstack : (F0 m pc ls (st.map (qV G))).stack = (as0.map (qV G)).reverse ++ .ref (qad G a) :: rest.map (qV G) := by
      show st.map (qV G) = _
      rw [hst2, List.map_append, List.map_reverse, List.map_cons]
      rfl
    rcases hm with rfl | rfl | rfl
    · have hh : C.2.2.2.2.2 = [] := Classical.byContradiction fun z => by
        have := k6.mpr z
        omega
      have hcw : qcw C = Cond.code C.2.1 C.2.2.1 C.2.2.2.1 C.2.2.2.2.1 := by unfold qcw; rw [hh]
      have hin : qcw C ∈ wsL_law := by rw [hcw]; exact qTc0_cc _ hM
      have hsel : (Cond.selects C.2.1.cls C.2.1 C.2.1).before args s0 = true := by rw [k1]; exact hts _ (qmap_in qTc0_v hM)
      rw [← k1] at g3
      exact vx_runV (nL := M.2.2.2.1) (Ts := wsL_law) (C := C.2.1.cls) (b := qad G a) (As := as0.map (qV G)) ⟨hx, hb, hml, hown, hts⟩ hmet ⟨⟨rfl, rfl, by show d + 8 + 1 ≤ _; omega, by show 8 + (C.2.2.2.1 + 11) + (60 * d + 200) ≤ _; omega, pay_in hts (hgood hin), by rw [← hcw]; exact List.mem_cons_self, by rw [← hcw]; exact hts _ hin, hts _ (qmap_in qTc0_n hM), k3, hlenp, hts _ (qmap_in qTc0_l hM)⟩, hts _ (qmap_in qTc0_i hM), hsel⟩ ⟨qblind G s _, ⟨cell, g1, g2, g3⟩, fun U hU hW => ⟨rfl, hPt U hU hW⟩⟩ rfl (by rw [List.length_map]; exact hn) hL.2.1 hstack hcat' hd ⟨by omega, by omega⟩
    · have hh : C.2.2.2.2.2 ≠ [] := k6.mp (Or.inr rfl)
      obtain ⟨h1, t1, hht⟩ : ∃ h1 t1, C.2.2.2.2.2 = h1 :: t1 := by
        cases hq : C.2.2.2.2.2 with
        | nil => exact absurd hq hh
        | cons x y => exact ⟨x, y, rfl⟩
      have hcw : qcw C = Cond.codeWith C.2.1 C.2.2.1 C.2.2.2.1 C.2.2.2.2.1 C.2.2.2.2.2 := by unfold qcw; rw [hht]
      have hin : qcw C ∈ wsL_law := by rw [hcw]; exact qmap_in qTc15_c hM
      have hsel : (Cond.selects C.2.1.cls C.2.1 C.2.1).before args s0 = true := by rw [k1]; exact hts _ (qmap_in qTc15_v hM)
      rw [← k1] at g3
      exact vx_runVX (nL := M.2.2.2.1) (Ts := wsL_law) (hh := C.2.2.2.2.2) (C := C.2.1.cls) (b := qad G a) (As := as0.map (qV G)) ⟨hx, hb, hml, hown, hts⟩ hmet ⟨⟨rfl, rfl, by show d + 8 + 1 ≤ _; omega, by show 8 + (C.2.2.2.1 + 11) + (60 * d + 200) ≤ _; omega, pay_in hts (hgood hin), by rw [← hcw]; exact List.mem_cons_self⟩, by rw [← hcw]; exact hts _ hin, hts _ (qmap_in qTc15_n hM), k3, hlenp, hts _ (qmap_in qTc15_l hM), hts _ (qmap_in qTc15_i hM), hsel⟩ ⟨qblind G s _, ⟨cell, g1, g2, g3⟩, fun U hU hW => ⟨rfl, hPt U hU hW⟩⟩ rfl (by rw [List.length_map]; exact hn) hL.2.1 hstack hcat' hd ⟨by omega, by omega⟩
    · have hh : C.2.2.2.2.2 = [] := Classical.byContradiction fun z => by
        have := k6.mpr z
        omega
      have hcw : qcw C = Cond.code C.2.1 C.2.2.1 C.2.2.2.1 C.2.2.2.2.1 := by unfold qcw; rw [hh]
      have hin : qcw C ∈ wsL_law := by rw [hcw]; exact qmap_in qTc16_c hM
      obtain ⟨hC12, hCy⟩ := qTc16_ok hmem
      have w16 := gw_all _ qTc16_v
      rw [hC12] at g3
      refine vx_runU (x := yJ5_length_8abf5) (owner := RJ5) (nL := M.2.2.2.1) (Ts := wsL_law) (C := RJ4) (b := qad G a) (As := as0.map (qV G)) ⟨hx, hb, hml, hown, hts⟩ hmet ⟨⟨rfl, rfl, by show d + 8 + 1 ≤ _; omega, by show 8 + (C.2.2.2.1 + 11) + (60 * d + 200) ≤ _; omega, pay_in hts (hgood hin), by rw [← hcw]; exact List.mem_cons_self⟩, by rw [← hcw]; exact hts _ hin, hts _ (qmap_in qTc16_n hM), by decide, fun sig h => hlenp sig (by rw [hCy]; exact h), hts _ (qmap_in qTc16_l hM), hts _ (w16 _ (by simp [yJ5_length_8abf5])), va_Decl.of (hts _ (w16 _ (by simp [yJ5_length_8abf5]))) (hts _ (w16 (Cond.code yJ5_length_8abf5 cJ5_length_8abf5 1 (some .int)) (by simp))), by rw [hCy]; exact hts _ (w16 _ (by simp)), hts _ (qmap_in qTc16_i hM)⟩ ⟨qblind G s _, ⟨cell, g1, g2, g3⟩, fun U hU hW => ⟨rfl, hPt U hU hW⟩⟩ rfl (by rw [List.length_map]; exact hn) hL.2.1 hstack hcat' hd ⟨by omega, by omega⟩
  · obtain ⟨ha, cell, g1, g2, g3⟩ := hrec a ci hci hC1
    have had := qRel_lt hR ha
    have hstack : (F0 m pc ls (st.map (qV G))).stack = (as0.map (qV G)).reverse ++ .ref (G.1 + qPm a) :: rest.map (qV G) := by
      show st.map (qV G) = _
      rw [hst2, List.map_append, List.map_reverse, List.map_cons]
      show _ ++ Value.ref (qad G a) :: _ = _
      rw [had]
    obtain ⟨k71, k72⟩ := k7 (hm.imp_right Or.inl)
    have hh : C.2.2.2.2.2 = [] := Classical.byContradiction fun z => by
      have := k6.mpr z
      rcases hm with h | h <;> rcases this with h2 | h2 <;> omega
    have hcw : qcw C = Cond.code C.2.1 C.2.2.1 C.2.2.2.1 none := by unfold qcw; rw [hh, k72]
    rcases hm with rfl | rfl
    · have hin : qcw C ∈ wsL_law := by rw [hcw, ← k72]; exact qmap_in qTc2_c hM
      exact vx_runI (nL := M.2.2.2.1) (Ts := wsL_law) (b := G.1 + qPm a) (As := as0.map (qV G)) ⟨hx, hb, hml, hown, hts⟩ hmet ⟨⟨rfl, rfl, by show d + 8 + 1 ≤ _; omega, by show 8 + (C.2.2.2.1 + 11) + (60 * d + 200) ≤ _; omega, pay_in hts (hgood hin), by rw [← hcw]; exact List.mem_cons_self, by rw [← hcw]; exact hts _ hin, hts _ (qmap_in qTc2_n hM), k3, hlenp, hts _ (qmap_in qTc2_l hM)⟩, k71, hts _ (qmap_in qTc2_i hM)⟩ ⟨qblind G s _, fun U hU hW => ⟨by rw [← had]; rfl, hPt U hU hW⟩⟩ rfl (by rw [List.length_map]; exact hn) hL.2.1 hstack hcat' hd ⟨by omega, by omega⟩
    · have hin : qcw C ∈ wsL_law := by rw [hcw, ← k72]; exact qmap_in qTc3_c hM
      have hnest := va_Nw.use (A := args) (by rfl) (hTB.2.1 _ hmem rfl)
      exact vx_runIN (nL := M.2.2.2.1) (Ts := wsL_law) (b := G.1 + qPm a) (As := as0.map (qV G)) (host := "SwitchGraphs") ⟨hx, hb, hml, hown, hts⟩ hmet ⟨⟨⟨rfl, rfl, by show d + 8 + 1 ≤ _; omega, by show 8 + (C.2.2.2.1 + 11) + (60 * d + 200) ≤ _; omega, pay_in hts (hgood hin), by rw [← hcw]; exact List.mem_cons_self⟩, by rw [← hcw]; exact hts _ hin, hts _ (qmap_in qTc3_n hM), k3, hlenp, hnest⟩, k71, hts _ (qmap_in qTc3_i hM)⟩ ⟨qblind G s _, fun U hU hW => ⟨by rw [← had]; rfl, hPt U hU hW⟩⟩ rfl (by rw [List.length_map]; exact hn) hL.2.1 hstack hcat' hd ⟨by omega, by omega⟩
  · subst hm
    obtain ⟨ha, cell, g1, g2, g3⟩ := hrec0 a 11 hci
    rw [← qRel_lt hR ha] at g1
    have hstack : (F0 m pc ls (st.map (qV G))).stack = (as0.map (qV G)).reverse ++ .ref (qad G a) :: rest.map (qV G) := by
      show st.map (qV G) = _
      rw [hst2, List.map_append, List.map_reverse, List.map_cons]
      rfl
    have hh : C.2.2.2.2.2 = [] := Classical.byContradiction fun z => by
      have := k6.mpr z
      omega
    have hcw : qcw C = Cond.code C.2.1 C.2.2.1 C.2.2.2.1 C.2.2.2.2.1 := by unfold qcw; rw [hh]
    have hin : qcw C ∈ wsL_law := by rw [hcw]; exact qmap_in qTc10_c hM
    exact vx_runU (x := C.2.1) (owner := C.2.1.cls) (nL := M.2.2.2.1) (Ts := wsL_law) (C := RJ4) (b := qad G a) (As := as0.map (qV G)) ⟨hx, hb, hml, hown, hts⟩ hmet ⟨⟨rfl, rfl, by show d + 8 + 1 ≤ _; omega, by show 8 + (C.2.2.2.1 + 11) + (60 * d + 200) ≤ _; omega, pay_in hts (hgood hin), by rw [← hcw]; exact List.mem_cons_self⟩, by rw [← hcw]; exact hts _ hin, hts _ (qmap_in qTc10_n hM), k3, hlenp, hts _ (qmap_in qTc10_l hM), hts _ (qmap_in qTc10_m hM), va_Decl.of (hts _ (qmap_in qTc10_i hM)) (by rw [← hcw]; exact hts _ hin), hts _ (qmap_in qTc10_v hM), hts _ (qmap_in qTc10_i hM)⟩ ⟨qblind G s _, ⟨cell, g1, g2, g3⟩, fun U hU hW => ⟨rfl, hPt U hU hW⟩⟩ rfl (by rw [List.length_map]; exact hn) hL.2.1 hstack hcat' hd ⟨by omega, by omega⟩
  · obtain ⟨ha, cell, g1, g2, g3⟩ := hrec0 a 11 hci
    rw [← qRel_lt hR ha] at g1
    have hstack : (F0 m pc ls (st.map (qV G))).stack = (as0.map (qV G)).reverse ++ .ref (qad G a) :: rest.map (qV G) := by
      show st.map (qV G) = _
      rw [hst2, List.map_append, List.map_reverse, List.map_cons]
      rfl
    rcases hm with rfl | rfl
    · have hh : C.2.2.2.2.2 = [] := Classical.byContradiction fun z => by
        have := k6.mpr z
        omega
      have hcw : qcw C = Cond.code C.2.1 C.2.2.1 C.2.2.2.1 C.2.2.2.2.1 := by unfold qcw; rw [hh]
      have hin : qcw C ∈ wsL_law := by rw [hcw]; exact qmap_in qTc11_c hM
      have hno : C.2.1.name ≠ "<init>" := qTc11_ok hmem
      exact vx_runSU (C := RJ4) (hTB.1.1 11 _ rfl).2 (nL := M.2.2.2.1) (Ts := wsL_law) (b := qad G a) (As := as0.map (qV G)) ⟨hx, hb, hml, hown, hts⟩ hmet ⟨⟨rfl, rfl, by show d + 8 + 1 ≤ _; omega, by show 8 + (C.2.2.2.1 + 11) + (60 * d + 200) ≤ _; omega, pay_in hts (hgood hin), by rw [← hcw]; exact List.mem_cons_self⟩, hts _ (qmap_in qTc11_l hM), hts _ (qmap_in qTc11_m hM), hts _ (qmap_in qTc11_v hM), hts _ (qmap_in qTc11_i hM), hts _ (qmap_in qTc11_n hM), by rw [← hcw]; exact hts _ hin, hno, hlenp⟩ ⟨qblind G s _, ⟨cell, g1, g2, g3⟩, fun U hU hW => ⟨rfl, hPt U hU hW⟩⟩ rfl (by rw [List.length_map]; exact hn) hL.2.1 hstack hcat' hd ⟨by omega, by omega⟩
    · obtain ⟨k71, k72⟩ := k7 (Or.inr (Or.inr rfl))
      have hh : C.2.2.2.2.2 = [] := Classical.byContradiction fun z => by
        have := k6.mpr z
        omega
      have hcw : qcw C = Cond.code C.2.1 C.2.2.1 C.2.2.2.1 none := by unfold qcw; rw [hh, k72]
      have hin : qcw C ∈ wsL_law := by rw [hcw, ← k72]; exact qmap_in qTc12_c hM
      exact vx_runI (nL := M.2.2.2.1) (Ts := wsL_law) (b := qad G a) (As := as0.map (qV G)) ⟨hx, hb, hml, hown, hts⟩ hmet ⟨⟨rfl, rfl, by show d + 8 + 1 ≤ _; omega, by show 8 + (C.2.2.2.1 + 11) + (60 * d + 200) ≤ _; omega, pay_in hts (hgood hin), by rw [← hcw]; exact List.mem_cons_self, by rw [← hcw]; exact hts _ hin, hts _ (qmap_in qTc12_n hM), k3, hlenp, hts _ (qmap_in qTc12_l hM)⟩, k71, hts _ (qmap_in qTc12_i hM)⟩ ⟨qblind G s _, fun U hU hW => ⟨rfl, hPt U hU hW⟩⟩ rfl (by rw [List.length_map]; exact hn) hL.2.1 hstack hcat' hd ⟨by omega, by omega⟩
theorem qx0 : ∀ (n d : Nat) (M : qM) (pc : Nat) (L : qLo) (st : List Value) (s : qSt) (k : Nat) (s' : qSt), qExec n d M pc L st s = some (.inr k, s') → M.2.2.2.2.2 = [] := by
  intro n
  induction n with
  | zero => intro d M pc L st s k s' h; cases h
  | succ n ih =>
    intro d M pc L st s k s' h
    unfold qExec at h
    split at h
    · cases h
    · rename_i ins len hd
      split at h
      · cases h
      · exact ih _ _ _ _ _ _ _ _ h
      · rename_i o2 s2 hs
        cases h
        by_cases hnew : ∃ i, ins = .new i
        · obtain ⟨i, rfl⟩ := hnew
          obtain ⟨E, -, -, -, -, hM⟩ := qend_new hd hs
          exact hM
        · obtain ⟨v, hv, -⟩ := qend_ret hd hs (fun i hi => hnew ⟨i, hi⟩)
          cases hv
      · split at h
        · split at h
          · cases h
          · split at h
            · cases h
            · exact ih _ _ _ _ _ _ _ _ h
            · split at h
              · rename_i hM
                exact hM
              · split at h
                · cases h
                · split at h
                  · split at h
                    · exact ih _ _ _ _ _ _ _ _ h
                    · cases h
                  · split at h
                    · exact ih _ _ _ _ _ _ _ _ h
                    · cases h
                  · cases h
        · cases h
theorem qsnd {l : Launch} {G : qG} (hst : l.stackTraces = false) : ∀ n, qSndAt l G n := by
  intro n
  induction n with
  | zero => intro d M pc L st s o s' h; cases h
  | succ n ih =>
    intro d M pc L st s o s' h p e R s0 m args below meth c H locs cells slots Q ls cE sE hC hTb hfr hlo hL hR hz hlc hcE hsE hcR hsR hE
    unfold qExec at h
    split at h
    · cases h
    · rename_i ins len hd
      split at h
      · cases h
      · rename_i pc2 L2 st2 s2 hs
        have hm1 : s.1 + s.2.1 ≤ s2.1 + s2.2.1 ∧ s.2.2.1 ≤ s2.2.2.1 := qstep_mono hs
        have hm2 := qexec_mono _ _ _ _ _ _ _ _ _ h
        refine qstep_all hC (by omega) (by omega) hL hR hz hlc (by omega) (by omega) ⟨by omega, by omega⟩ hd hs ?_
        intro ls2 H2 locs2 cells2 slots2 hL2 hR2 hz2 hlc2 hc2 hs2
        exact ih d M pc2 L2 st2 s2 o s' h p e R s0 m args below meth c H2 locs2 cells2 slots2 Q ls2 cE sE hC hTb hfr hlo hL2 hR2 (Nat.le_trans hz hz2) hlc2 (by omega) (by omega) hcR hsR hE
      · rename_i o2 s2 hs
        cases h
        by_cases hnew : ∃ i, ins = .new i
        · obtain ⟨i, rfl⟩ := hnew
          obtain ⟨E, rfl, rfl, hcat, hsite, hM0⟩ := qend_new hd hs
          simp only [qthr] at hcE hsE
          exact hE.2.1 E pc ls _ s H locs cells slots rfl rfl hsite hL.2.1 (qcat_ok hcat) hR hz hlc (by omega) (by omega)
        · obtain ⟨v, rfl, rfl, rfl, hr⟩ := qend_ret hd hs (fun i hi => hnew ⟨i, hi⟩)
          exact hE.1 v pc ls H locs cells slots rfl hr hR hz hlc (by omega) (by omega)
      · rename_i i C as rest hs
        split at h
        · rename_i hok
          split at h
          · cases h
          · rename_i d'
            split at h
            · cases h
            · rename_i v s2 hcal
              have hm1 := qexec_mono _ _ _ _ _ _ _ _ _ hcal
              have hm2 := qexec_mono _ _ _ _ _ _ _ _ _ h
              have hrun := qcallrun hst ih (e := e) (below := below) (ls := ls) (cells := cells) (slots := slots) hC hfr hlo hL hR hlc (by omega) (by omega) hd hs hok hcal (fun k hk => qx0 n _ _ _ _ _ _ k s2 (by rw [← hk]; exact hcal))
              intro T hT X
              rcases hrun T hT X with ⟨v', st₀, t, T', L9, h0, X', hL9, e1, e2, ⟨v2, hv2, hv3, hR1, hz1⟩, hst9⟩ | ⟨q9, st₀, t, T', L9, E, ce, h0, X', hL9, e1, e2, ⟨k, hk, -⟩, -⟩
              · cases hv2
                cases hv3
                have hk := ih (d' + 1) M (pc + 3) L (v.toList ++ rest) s2 o s' h p e R s0 m args below meth c T'.heap (locs ++ L9) (cells + (s2.1 + s2.2.1 - (s.1 + s.2.1))) (slots + (s2.2.2.1 - s.2.2.1)) Q ls cE sE hC hTb hfr hlo hL (by rw [e1]; exact hR1) (by rw [e1]; rw [h0] at hz1; exact Nat.le_trans hz hz1) (fun z hz => (List.mem_append.mp hz).elim (hlc z) (hL9 z)) (by omega) (by omega) hcR hsR hE
                obtain ⟨t2, a1, b1⟩ := hk T' rfl X'
                refine ⟨t2, hst9 t2 ?_, b1⟩
                have e3 : (v.toList ++ rest).map (qV G) = (v.map (qV G)).toList ++ rest.map (qV G) := by cases v <;> rfl
                rw [e3] at a1
                exact a1
              · cases hk
            · rename_i E s2 hcal
              have hm1 := qexec_mono _ _ _ _ _ _ _ _ _ hcal
              have hE4 : ∀ (T : State), T.heap = H → Stand p l e R s0 m args below meth c T locs cells slots → (∀ (k : Nat) (H1 : Heap) (locs1 : List Loc) (q9 : Addr) (ce : Cell), E = k → k < 3 → qRel G s2 H1 → s0.heap.size ≤ H1.size → (∀ z ∈ locs1, G.1 ≤ z.base) → H1[q9]? = some ce → ce.vm = .none → s0.vm.findClass (qEx k) = some ce.cls → vx_W p l e R s0 m args below meth c H1 locs1 (cells + (s2.1 + s2.2.1 - (s.1 + s.2.1))) (slots + (s2.2.2.1 - s.2.2.1)) Q (F0 m pc ls (rest.map (qV G))) q9) → ∃ t, Steps p.tables e below (T.setTop (F0 m pc ls (st.map (qV G)))) t ∧ Q t := by
                intro T hT X hkk
                have hm3 : s2.1 + s2.2.1 ≤ s'.1 + s'.2.1 ∧ s2.2.2.1 ≤ s'.2.2.1 := by
                  split at h
                  · cases h
                    exact ⟨Nat.le_refl _, Nat.le_refl _⟩
                  · split at h
                    · cases h
                    · split at h
                      · split at h
                        · exact qexec_mono _ _ _ _ _ _ _ _ _ h
                        · cases h
                      · split at h
                        · exact qexec_mono _ _ _ _ _ _ _ _ _ h
                        · cases h
                      · cases h
                have hrun := qcallrun hst ih (e := e) (below := below) (ls := ls) (cells := cells) (slots := slots) hC hfr hlo hL hR hlc (by omega) (by omega) hd hs hok hcal (fun k hk => qx0 n _ _ _ _ _ _ k s2 (by rw [← hk]; exact hcal))
                rcases hrun T hT X with ⟨v', st₀, t, T', L9, h0, X', hL9, e1, e2, ⟨v2, hv2, -⟩, -⟩ | ⟨q9, st₀, t, T', L9, E1, ce, h0, X', hL9, e1, e2, ⟨k, hk, hk4, hkE, hR1, hz1⟩, hce, hcv, hcl, hst9⟩
                · cases hv2
                · cases hk
                  subst hkE
                  obtain ⟨t2, a1, b1⟩ := hkk E T'.heap (locs ++ L9) q9 ce rfl hk4 (by rw [e1]; exact hR1) (by rw [e1]; rw [h0] at hz1; exact Nat.le_trans hz hz1) (fun z hz => (List.mem_append.mp hz).elim (hlc z) (hL9 z)) (by rw [e1]; exact hce) hcv hcl T' rfl X'
                  exact ⟨t2, hst9.trans a1, b1⟩
              intro T hT X
              refine hE4 T hT X ?_
              intro k H1 locs1 q9 ce hkE hk4 hR1 hz1 hlc1 hce hcv hcl
              subst hkE
              split at h
              · rename_i hM0
                cases h
                exact hE.2.2 E pc ls _ H1 locs1 _ _ q9 ce rfl hM0 hR1 hz1 hlc1 (by omega) (by omega) hce hcv hcl hk4
              · rename_i hd0 tl0 hM0
                split at h
                · cases h
                · rename_i hpc hhan
                  obtain ⟨pre, a, b, ct, suf, f1, f2, f3, f4⟩ := qhan_ok _ hhan
                  obtain ⟨hx, hb, hml, hnm, hown, hts, hret, hlk, hTB, hH0⟩ := id hC
                  have hct := qTk_ok f3
                  have hctk := List.all_eq_true.mp qTkL_ok _ hct
                  simp only [Bool.and_eq_true, decide_eq_true_eq] at hctk
                  have htab : c.exceptionTable.toList = tableOf pre ++ ⟨a, b, hpc, ct⟩ :: tableOf suf := by
                    rw [hTb, hM0, f1]
                    simp [tableOf]
                  refine vx_catch (own := qNm M.1) (name := qEx E) (E := qEx E) (ce := ce) hown (tableOf pre) ⟨a, b, hpc, ct⟩ (tableOf suf) htab ?_ (by simp [covers, f2.1, f2.2]) hctk.2 (hts _ (qmap_in qTk_k hct)) (va_Nw.use (by rfl) (hTB.2.2.2.2.1 E hk4)) hce hcv hcl ?_
                  · intro z hz2
                    unfold tableOf at hz2
                    obtain ⟨y, hy, rfl⟩ := List.mem_map.mp hz2
                    rcases f4 y hy with g1 | ⟨E', g1, g2⟩
                    · left
                      show (decide (y.1 ≤ pc) && decide (pc < y.2.1)) = false
                      simp only [Bool.and_eq_false_iff, decide_eq_false_iff_not]
                      by_cases hy1 : y.1 ≤ pc
                      · exact Or.inr fun hy2 => g1 ⟨hy1, hy2⟩
                      · exact Or.inl hy1
                    · right
                      have hct' := qTk_ok g1
                      have hctk' := List.all_eq_true.mp qTkL_ok _ hct'
                      simp only [Bool.and_eq_true, decide_eq_true_eq] at hctk'
                      exact ⟨hctk'.2, qEx E', hts _ (qmap_in qTk_k hct'), hTB.2.2.2.2.2.1 E E' hk4 hctk'.1 (fun q => g2 q.symm)⟩
                  · split at h
                    · rename_i kk hdh
                      split at h
                      · rename_i hlt
                        have hm2 := qexec_mono _ _ _ _ _ _ _ _ _ h
                        exact lv_astore_n hx hb hdh rfl hL.2 (by rw [← hL.1]; exact hlt) rfl (fun ls' h' => ih (d' + 1) M _ _ _ s2 o s' h p e R s0 m args below meth c H1 locs1 _ _ Q ls' cE sE hC hTb hfr hlo (qLs_st0 hL h') hR1 hz1 hlc1 (by omega) (by omega) hcR hsR hE)
                      · cases h
                    · rename_i kk hdh
                      split at h
                      · rename_i hlt
                        have hm2 := qexec_mono _ _ _ _ _ _ _ _ _ h
                        exact lv_astore hx hb hdh hL.2 (by rw [← hL.1]; exact hlt) rfl (fun ls' h' => ih (d' + 1) M _ _ _ s2 o s' h p e R s0 m args below meth c H1 locs1 _ _ Q ls' cE sE hC hTb hfr hlo (qLs_st0 hL h') hR1 hz1 hlc1 (by omega) (by omega) hcR hsR hE)
                      · cases h
                    · cases h
        · cases h
