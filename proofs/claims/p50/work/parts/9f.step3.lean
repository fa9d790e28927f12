theorem qargs_ok {n : Nat} {st as rest : List Value} (h : qargs n st = some (as, rest)) : st = as.reverse ++ rest ∧ as.length = n := by
  unfold qargs at h
  split at h
  · rename_i hn
    cases h
    refine ⟨by rw [List.reverse_reverse, List.take_append_drop], by rw [List.length_reverse, List.length_take]; omega⟩
  · cases h
theorem qcat_ok {G : qG} {st : List Value} (h : qcat st = true) : ((st.map (qV G)).map fun v => v.category).sum ≤ 8 := by
  unfold qcat at h
  have h1 := of_decide_eq_true h
  have e : (st.map (qV G)).map (fun v => v.category) = st.map fun v => v.category := by
    rw [List.map_map]
    exact List.map_congr_left (fun v _ => qV_cat G v)
  rw [e]
  exact h1
section QS3
variable {G : qG} {M : qM} {p : Program} {l : Launch} {e : Env} {R : Room} {s0 : State} {m : MethodId} {args : Array Value} {below : List Frame} {meth : Method} {c : Code} {H : Heap} {locs : List Loc} {cells slots : Nat} {Q : State → Prop}
/-- String.length() of a constant -/
theorem qj_length {pc i j : Nat} {rest : List Value} {ls : Array Slot} {s : qSt} (hC : qCx G M p s0 m args meth c) (hfr : 6 ≤ R.frames) (hlo : 200 ≤ R.locals) (hR : qRel G s H) (hz : s0.heap.size ≤ H.size) (hlc : ∀ z ∈ locs, G.1 ≤ z.base) (hcc : cells ≤ R.cells ∧ slots ≤ R.slots) (hls : ls.size = M.2.2.2.1)
    (hj : j < 10) (hrest : (rest.map fun v => v.category).sum ≤ 8) (hw : Cond.methodLink (qNm M.1) i yJ0_length_8abf5 ∈ wsL_law) (hd : decode M.2.2.1 pc = .ok (.invokevirtual i, 3))
    (k : ∀ H2 : Heap, H2 = H → W p l e R s0 m args below meth c H2 locs cells slots Q (F0 m (pc + 3) ls (.int (Int32.ofNat (qStr j).length) :: rest))) : W p l e R s0 m args below meth c H locs cells slots Q (F0 m pc ls (.ref (G.2.1 j) :: rest)) := by
  obtain ⟨hx, hb, hml, hnm, hown, hts, hret, hlk, hTB, hH0⟩ := hC
  obtain ⟨z1, -, -, -⟩ := qJSh hTB hR.2.2.2.2.1 hj
  refine qj_go (v := some (.int (Int32.ofNat (qSlen.getD j 0)))) (va_runV (nL := M.2.2.2.1) (Ts := wsL_law) (C := RJ0) (As := []) (rest := rest) ⟨hx, hb, hml, hown, hts⟩ (qj_len l G j hj) ⟨⟨rfl, rfl, by show 2 + 1 ≤ _; omega, by show 8 + (1 + 11) + (30 * 2 + 20) ≤ _; omega, pay_in hts (qJgood wj_0), List.mem_cons_self, hts _ wj_0, hts _ wj_27, by decide, fun sig h => by cases h; rfl, hts _ hw⟩, hts _ wj_16, hts _ wj_20⟩ ⟨qJblind G _, by obtain ⟨cell, g1, g2, g3, -⟩ := z1; exact ⟨cell, g1, g2, g3⟩, fun U hU hW => ⟨rfl, qTB.warm hTB hW, by rw [hU]; exact hR.2.2.2.2.1⟩⟩ rfl rfl hls rfl (lv_room hrest) hd hcc) ?_
  rw [(qSlen_ok j hj).1]
  exact k H rfl
/-- String.charAt(x) of a constant -/
theorem qj_charAt {pc i j : Nat} {x : Int32} {rest : List Value} {ls : Array Slot} {s : qSt} (hC : qCx G M p s0 m args meth c) (hfr : 6 ≤ R.frames) (hlo : 200 ≤ R.locals) (hR : qRel G s H) (hz : s0.heap.size ≤ H.size) (hlc : ∀ z ∈ locs, G.1 ≤ z.base) (hcc : cells ≤ R.cells ∧ slots ≤ R.slots) (hls : ls.size = M.2.2.2.1)
    (hj : j < 10) (hx0 : ¬ (x < 0 ∨ (qStr j).length ≤ x.toNatClampNeg)) (hrest : (rest.map fun v => v.category).sum ≤ 8) (hw : Cond.methodLink (qNm M.1) i yJ0_charAt_5068e ∈ wsL_law) (hd : decode M.2.2.1 pc = .ok (.invokevirtual i, 3))
    (k : ∀ H2 : Heap, H2 = H → W p l e R s0 m args below meth c H2 locs cells slots Q (F0 m (pc + 3) ls (.int (Int32.ofInt ((qStr j).getD x.toNatClampNeg 0)) :: rest))) : W p l e R s0 m args below meth c H locs cells slots Q (F0 m pc ls (.int x :: .ref (G.2.1 j) :: rest)) := by
  obtain ⟨hx, hb, hml, hnm, hown, hts, hret, hlk, hTB, hH0⟩ := hC
  obtain ⟨z1, -, -, -⟩ := qJSh hTB hR.2.2.2.2.1 hj
  obtain ⟨hs1, hs2⟩ := qSlen_ok j hj
  have hx1 : ¬ x < 0 := fun q => hx0 (Or.inl q)
  have hx3 : x.toNatClampNeg < (qStr j).length := Nat.lt_of_not_le (fun q => hx0 (Or.inr q))
  have hin : vp_in x (qSlen.getD j 0) := by
    rw [hs1]
    exact hx0
  have hx2 : x < Int32.ofNat (qSlen.getD j 0) := by
    have h1 := (vp_in_iff.mp hin).2
    apply Int32.lt_iff_toInt_lt.mpr
    rw [Int32.toInt_ofNat_of_lt (by omega)]
    exact h1
  obtain ⟨hc1, hc2⟩ := qchr_all j hj x.toNatClampNeg (by omega)
  refine qj_go (v := some (.int (Int32.ofInt ((qStr j).getD x.toNatClampNeg 0)))) (va_runV (nL := M.2.2.2.1) (Ts := wsL_law) (C := RJ0) (As := [.int x]) (rest := rest) ⟨hx, hb, hml, hown, hts⟩ (qj_chr l G j hj x hx1 hx2 hin _ hc1 hc2) ⟨⟨rfl, rfl, by show 4 + 1 ≤ _; omega, by show 8 + (2 + 11) + (30 * 4 + 20) ≤ _; omega, pay_in hts (qJgood wj_2), List.mem_cons_self, hts _ wj_2, hts _ wj_27, by decide, fun sig h => by cases h; rfl, hts _ hw⟩, hts _ wj_18, hts _ wj_22⟩ ⟨qJblind G _, by obtain ⟨cell, g1, g2, g3, -⟩ := z1; exact ⟨cell, g1, g2, g3⟩, fun U hU hW => ⟨rfl, qTB.warm hTB hW, by rw [hU]; exact hR.2.2.2.2.1⟩⟩ rfl rfl hls rfl (lv_room hrest) hd hcc) ?_
  exact k H rfl
theorem qx_invokestatic {pc pc' : Nat} {L L' : qLo} {st st' : List Value} {s s2 : qSt} {ls : Array Slot} (hC : qCx G M p s0 m args meth c) (hfr : 6 ≤ R.frames) (hlo : 200 ≤ R.locals) (hL : qLs G ls M.2.2.2.1 L) (hR : qRel G s H) (hz : s0.heap.size ≤ H.size) (hlc : ∀ z ∈ locs, G.1 ≤ z.base) (hcs : cells + (s2.1 + s2.2.1) ≤ R.cells + (s.1 + s.2.1)) (hss : slots + s2.2.2.1 ≤ R.slots + s.2.2.1) (hcc : cells ≤ R.cells ∧ slots ≤ R.slots) {len : Nat} {i : Nat} (hd : decode M.2.2.1 pc = .ok (.invokestatic i, len)) (hs : qStep M pc (.invokestatic i) len L st s = some (.inl (pc', L', st', s2))) (k : qK G M p l e R s0 m args below meth c H cells slots s Q pc' L' st' s2) : W p l e R s0 m args below meth c H locs cells slots Q (F0 m pc ls (st.map (qV G))) := by
  obtain ⟨hx, hb, hml, hnm, hown, hts, hret, hlk, hTB, hH0⟩ := hC
  dsimp only [qStep] at hs
  split at hs
  · rename_i hlen; subst hlen
    split at hs
    · rename_i mo C n hc
      have hm := qTcM_in (qTc_ok hc)
      split at hs
      · rename_i as rest ha
        obtain ⟨hst, hlen⟩ := qargs_ok ha
        split at hs
        · rename_i hcat
          have hcat' := qcat_ok (G := G) hcat
          split at hs
          · cases hs
          · split at hs
            · rename_i h5
              subst h5
              split at hs
              · rename_i x y
                subst hst
                obtain ⟨rfl, rfl, rfl, rfl⟩ := qgo_eq hs
                show W p l e R s0 m args below meth c H locs cells slots Q (F0 m pc ls (.int y :: .int x :: List.map (qV G) rest))
                exact va_mmax hx hb (by rw [hml]; exact hL.2.1.symm) hown (hts _ (qmap_in qTc5_l hm)) (hts _ (qmath_w _ (by simp))) (hts _ (qmath_w _ (by simp))) (hts _ (qmath_w _ (by simp))) (by omega) (by omega) hcc.1 hcc.2 hd (k ls H locs cells slots hL hR (Nat.le_refl _) hlc rfl rfl)
              · cases hs
            · split at hs
              · rename_i h6
                subst h6
                split at hs
                · rename_i x y
                  subst hst
                  obtain ⟨rfl, rfl, rfl, rfl⟩ := qgo_eq hs
                  show W p l e R s0 m args below meth c H locs cells slots Q (F0 m pc ls (.int y :: .int x :: List.map (qV G) rest))
                  exact va_mmin hx hb (by rw [hml]; exact hL.2.1.symm) hown (hts _ (qmap_in qTc6_l hm)) (hts _ (qmath_w _ (by simp))) (hts _ (qmath_w _ (by simp))) (hts _ (qmath_w _ (by simp))) (by omega) (by omega) hcc.1 hcc.2 hd (k ls H locs cells slots hL hR (Nat.le_refl _) hlc rfl rfl)
                · cases hs
              · split at hs
                · rename_i h13
                  subst h13
                  split at hs
                  · rename_i x y
                    split at hs
                    · rename_i hin
                      subst hst
                      obtain ⟨rfl, rfl, rfl, rfl⟩ := qgo_eq hs
                      show W p l e R s0 m args below meth c H locs cells slots Q (F0 m pc ls (.int y :: .int x :: List.map (qV G) rest))
                      have hx1 : ¬ x < 0 := fun q => hin (Or.inl q)
                      have hx2 : x < y := Int32.not_le.mp (fun q => hin (Or.inr q))
                      exact qj_go (v := none) (va_runS (nL := M.2.2.2.1) (Ts := wsL_law) (As := [.int x, .int y]) (rest := rest.map (qV G)) ⟨hx, hb, hml, hown, hts⟩ (qj_chk l G x y hx1 hx2) ⟨⟨rfl, rfl, by show 2 + 1 ≤ _; omega, by show 8 + (2 + 11) + (30 * 2 + 20) ≤ _; omega, pay_in hts (qJgood wj_5), List.mem_cons_self, hts _ wj_5, hts _ wj_27, by decide, fun sig h => by cases h; rfl, hts _ (qmap_in qTc13_l hm)⟩, hts _ wj_25⟩ ⟨qJblind G _, fun U hU hW => ⟨rfl, qTB.warm hTB hW, by rw [hU]; exact hR.2.2.2.2.1⟩⟩ rfl rfl hL.2.1 rfl (lv_room hcat') hd hcc) (k ls H locs cells slots hL hR (Nat.le_refl _) hlc rfl rfl)
                    · cases hs
                  · cases hs
                · split at hs
                  · rename_i h14
                    subst h14
                    split at hs
                    · rename_i b sp a dp w
                      split at hs
                      · rename_i nb f na g hqb hqa
                        split at hs
                        · cases hs
                        · rename_i hcond
                          obtain ⟨rfl, rfl, rfl, rfl⟩ := qgo_eq hs
                          subst hst
                          have hsp : ¬ sp < 0 := fun q => hcond (Or.inl (Or.inl q))
                          have hdp : ¬ dp < 0 := fun q => hcond (Or.inl (Or.inr (Or.inl q)))
                          have hw0 : ¬ w < 0 := fun q => hcond (Or.inl (Or.inr (Or.inr (Or.inl q))))
                          have hl1 : sp.toNatClampNeg + w.toNatClampNeg ≤ nb := Nat.not_lt.mp fun q => hcond (Or.inl (Or.inr (Or.inr (Or.inr (Or.inl q)))))
                          have hl2 : dp.toNatClampNeg + w.toNatClampNeg ≤ na := Nat.not_lt.mp fun q => hcond (Or.inl (Or.inr (Or.inr (Or.inr (Or.inr q)))))
                          have hna : a ≠ 1001000 := fun q => hcond (Or.inr (Or.inl q))
                          have hfb : (List.range w.toNatClampNeg).all (fun i => fits .byte (.int (f (sp.toNatClampNeg + i)))) = true := Classical.byContradiction fun q => hcond (Or.inr (Or.inr (Or.inr (Or.inr q))))
                          obtain ⟨hea, haa⟩ := qai_ok hqa
                          have haa := qrel_b hR hea haa
                          have hwa := qW_at (G := G) haa
                          rw [hea] at hwa
                          have hca : H[G.1 + qPm a]? = some (vp_cell (G.2.2.2.2.1 1) (na, .inl g)) := hR.2.2.2.1 (qPm a) _ hwa
                          have hsrc : ∃ src : Cell, H[qad G b]? = some src ∧ s0.isArrayOf src .byte ∧ src.vm ≠ .unknown ∧ nb ≤ src.slots.size ∧ ∀ j, j < nb → src.slots[j]? = some (.int (f j)) := by
                            rcases qby_ok hqb with ⟨he, ha⟩ | hb2
                            · have ha := qrel_b hR he ha
                              have hw' := qW_at (G := G) ha
                              rw [he] at hw'
                              rw [qRel_lt hR ha]
                              exact ⟨_, hR.2.2.2.1 (qPm b) _ hw', (hTB.1.2 1 _ rfl).1 nb (fun j => .int (f j)), (fun h => by cases h), by show nb ≤ (arrV _ nb (fun j => .int (f j))).slots.size; rw [arrV_size]; exact Nat.le_refl _, fun j hj => arrV_read _ _ hj⟩
                            · obtain ⟨hb3, cell, c1, c2, c3, c4, c5, c6, c7⟩ := qxb_T hTB hH0 hb2
                              have hS := qRel_S hR hH0 hz hlc
                              exact ⟨cell, by rw [hS.2.1 _ (Array.getElem?_eq_some_iff.mp c1).1 c7]; exact c1, c2, c3, c4, c6⟩
                          obtain ⟨src, s1, s2, s3, s4, s5⟩ := hsrc
                          show W p l e R s0 m args below meth c H locs cells slots Q (F0 m pc ls (.int w :: .int dp :: .ref (qad G a) :: .int sp :: .ref (qad G b) :: List.map (qV G) rest))
                          rw [qRel_lt hR haa]
                          have hnf : nativeFrameWords "java/lang/System" "arraycopy" 5 ≤ 100 := by decide
                          refine qcpy hx hb (by rw [hml]; exact hL.2.1.symm) hown (hts _ (qmap_in qTc14_l hm)) (hts _ (qacp_w _ (by simp))) (hts _ (qacp_w _ (by simp))) (hts _ (qacp_w _ (by simp))) ((hTB.1.2 1 _ rfl).1 na (fun j => .int (g j))) s2 s3 s1 hca s4 s5 hsp hdp hw0 hl1 hl2 (fun i hi => List.all_eq_true.mp hfb i (List.mem_range.mpr hi)) (by omega) (by omega) hd (fun H1 locs1 e1 z1 oq l1 => ?_)
                          exact k ls H1 locs1 cells slots hL (qRel_put hR haa e1 z1 oq) (by rw [z1]; exact Nat.le_refl _) (fun z hz2 => by
                            rcases l1 z hz2 with h | h
                            · exact hlc z h
                            · rw [h]; exact Nat.le_add_right _ _) rfl rfl
                      · cases hs
                    · cases hs
                  · cases hs
        · cases hs
      · cases hs
    · cases hs
  · cases hs

theorem qx_invokespecial {pc pc' : Nat} {L L' : qLo} {st st' : List Value} {s s2 : qSt} {ls : Array Slot} (hC : qCx G M p s0 m args meth c) (hfr : 6 ≤ R.frames) (hlo : 200 ≤ R.locals) (hL : qLs G ls M.2.2.2.1 L) (hR : qRel G s H) (hz : s0.heap.size ≤ H.size) (hlc : ∀ z ∈ locs, G.1 ≤ z.base) (hcs : cells + (s2.1 + s2.2.1) ≤ R.cells + (s.1 + s.2.1)) (hss : slots + s2.2.2.1 ≤ R.slots + s.2.2.1) (hcc : cells ≤ R.cells ∧ slots ≤ R.slots) {len : Nat} {i : Nat} (hd : decode M.2.2.1 pc = .ok (.invokespecial i, len)) (hs : qStep M pc (.invokespecial i) len L st s = some (.inl (pc', L', st', s2))) (k : qK G M p l e R s0 m args below meth c H cells slots s Q pc' L' st' s2) : W p l e R s0 m args below meth c H locs cells slots Q (F0 m pc ls (st.map (qV G))) := by
  obtain ⟨hx, hb, hml, hnm, hown, hts, hret, hlk, hTB, hH0⟩ := hC
  dsimp only [qStep] at hs
  split at hs
  · rename_i hlen; subst hlen
    split at hs
    · rename_i mo C n hc
      have hm := qTcM_in (qTc_ok hc)
      split at hs
      · rename_i as a rest ha
        obtain ⟨hst, hlen⟩ := qargs_ok ha
        split at hs
        · rename_i hcat
          have hcat' := qcat_ok (G := G) hcat
          split at hs
          · split at hs
            · split at hs <;> cases hs
            · cases hs
          · split at hs
            · rename_i h7
              subst h7
              split at hs
              · rename_i has
                subst has
                subst hst
                obtain ⟨rfl, rfl, rfl, rfl⟩ := qgo_eq hs
                show W p l e R s0 m args below meth c H locs cells slots Q (F0 m pc ls (.ref (qad G a) :: List.map (qV G) rest))
                exact W.objInit hx hb hown (hts _ (qmap_in qTc7_l hm)) (hts _ (qobj_w _ (by simp))) (hts _ (qobj_w _ (by simp))) rfl (by rw [hml]; exact hL.2.1) rfl hd (by omega) (by have := lv_room (m := m) (pc := pc) (ls := ls) (rest := []) hcat'; show 2 * (F0 m pc ls _).monitorRoom + _ + 12 ≤ _; have e : (F0 m pc ls (Value.ref (qad G a) :: List.map (qV G) rest)).monitorRoom = (F0 m pc ls ([] : List Value)).monitorRoom := rfl; omega) (k ls H locs cells slots hL hR (Nat.le_refl _) hlc rfl rfl)
              · cases hs
            · split at hs
              · split at hs
                · split at hs <;> cases hs
                · cases hs
              · cases hs
        · cases hs
      · cases hs
    · cases hs
  · cases hs

theorem qTc17_ok {c i n : Nat} {C : qM} (h : (c, i, 17, C, n) ∈ qTcL) : qNm c = RJ7 ∧ i = 310 := by
  have h1 : qTcL.all (fun e => decide (e.2.2.1 ≠ 17) || (decide (e.1 = 16) && decide (e.2.1 = 310))) = true := by decide +kernel
  have h2 := List.all_eq_true.mp h1 _ h
  simp only [Bool.or_eq_true, Bool.and_eq_true, decide_eq_true_eq] at h2
  rcases h2 with h2 | ⟨h2, h3⟩
  · exact absurd rfl h2
  · refine ⟨?_, h3⟩
    have h2 : c = 16 := h2
    rw [h2]
    rfl
theorem qx_invokevirtual {pc pc' : Nat} {L L' : qLo} {st st' : List Value} {s s2 : qSt} {ls : Array Slot} (hC : qCx G M p s0 m args meth c) (hfr : 6 ≤ R.frames) (hlo : 200 ≤ R.locals) (hL : qLs G ls M.2.2.2.1 L) (hR : qRel G s H) (hz : s0.heap.size ≤ H.size) (hlc : ∀ z ∈ locs, G.1 ≤ z.base) (hcs : cells + (s2.1 + s2.2.1) ≤ R.cells + (s.1 + s.2.1)) (hss : slots + s2.2.2.1 ≤ R.slots + s.2.2.1) (hcc : cells ≤ R.cells ∧ slots ≤ R.slots) {len : Nat} {i : Nat} (hd : decode M.2.2.1 pc = .ok (.invokevirtual i, len)) (hs : qStep M pc (.invokevirtual i) len L st s = some (.inl (pc', L', st', s2))) (k : qK G M p l e R s0 m args below meth c H cells slots s Q pc' L' st' s2) : W p l e R s0 m args below meth c H locs cells slots Q (F0 m pc ls (st.map (qV G))) := by
  obtain ⟨hx, hb, hml, hnm, hown, hts, hret, hlk, hTB, hH0⟩ := hC
  dsimp only [qStep] at hs
  split at hs
  · rename_i hlen; subst hlen
    split at hs
    · rename_i mo C n hc
      have hm := qTcM_in (qTc_ok hc)
      split at hs
      · rename_i as a rest ha
        obtain ⟨hst, hlen⟩ := qargs_ok ha
        split at hs
        · rename_i hcat
          have hcat' := qcat_ok (G := G) hcat
          split at hs
          · split at hs
            · split at hs <;> cases hs
            · cases hs
          · split at hs
            · rename_i h8
              subst h8
              split at hs
              · rename_i hj
                obtain ⟨rfl, rfl, rfl, rfl⟩ := qgo_eq hs
                have has : as = [] := hj.2
                subst has
                subst hst
                show W p l e R s0 m args below meth c H locs cells slots Q (F0 m pc ls (.ref (qad G a) :: List.map (qV G) rest))
                rw [qad_str hj.1.1]
                exact qj_length ⟨hx, hb, hml, hnm, hown, hts, hret, hlk, hTB, hH0⟩ hfr hlo hR hz hlc hcc hL.2.1 (Nat.sub_lt_left_of_lt_add hj.1.1 (show _ < 1000000 + 10 from hj.1.2)) hcat' (qmap_in qTc8_l hm) hd (fun H2 h2 => by rw [h2]; exact (k ls H locs cells slots hL hR (Nat.le_refl _) hlc rfl rfl))
              · cases hs
            · split at hs
              · rename_i h9
                subst h9
                split at hs
                · rename_i x
                  split at hs
                  · rename_i hj
                    obtain ⟨rfl, rfl, rfl, rfl⟩ := qgo_eq hs
                    subst hst
                    show W p l e R s0 m args below meth c H locs cells slots Q (F0 m pc ls (.int x :: .ref (qad G a) :: List.map (qV G) rest))
                    rw [qad_str hj.1.1]
                    exact qj_charAt ⟨hx, hb, hml, hnm, hown, hts, hret, hlk, hTB, hH0⟩ hfr hlo hR hz hlc hcc hL.2.1 (Nat.sub_lt_left_of_lt_add hj.1.1 (show _ < 1000000 + 10 from hj.1.2)) hj.2 hcat' (qmap_in qTc9_l hm) hd (fun H2 h2 => by rw [h2]; exact (k ls H locs cells slots hL hR (Nat.le_refl _) hlc rfl rfl))
                  · cases hs
                · cases hs
              · split at hs
                · split at hs
                  · split at hs <;> cases hs
                  · cases hs
                · split at hs
                  · rename_i h17
                    subst h17
                    split at hs
                    · rename_i n1 f hqa
                      split at hs
                      · rename_i hcond
                        obtain ⟨rfl, hne, h0, h1000, hfb⟩ := hcond
                        obtain ⟨rfl, rfl, rfl, rfl⟩ := qgo_eq hs
                        subst hst
                        simp only [qnew] at hcs hss
                        obtain ⟨hea, haa⟩ := qai_ok hqa
                        have haa := qrel_b hR hea haa
                        have hwa := qW_at (G := G) haa
                        rw [hea] at hwa
                        have hca : H[G.1 + qPm a]? = some (vp_cell (G.2.2.2.2.1 1) (n1, .inl f)) := hR.2.2.2.1 (qPm a) _ hwa
                        have hsz := hR.2.1 h0
                        have hMi : qNm M.1 = RJ7 ∧ i = 310 := qTc17_ok (qTc_ok hc)
                        show W p l e R s0 m args below meth c H locs cells slots Q (F0 m pc ls (.ref (qad G a) :: List.map (qV G) rest))
                        rw [qRel_lt hR haa]
                        rw [hMi.1] at hown
                        refine qcln hx hb (by rw [hml]; exact hL.2.1.symm) hown (by rw [hMi.2]; exact hts _ (gw_all _ qCln_w _ (by simp))) (hts _ (gw_all _ qCln_w _ (by simp))) (hts _ (gw_all _ qCln_w _ (by simp))) (hts _ (gw_all _ qCln_w _ (by simp))) (hts _ (gw_all _ qCln_w _ (by simp))) hTB.aoa.2 ((hTB.1.2 1 _ rfl).1 n1 (fun j => .int (f j))) hca ((hTB.1.2 1 _ rfl).2) (fun i hi => List.all_eq_true.mp hfb i (List.mem_range.mpr hi)) (by omega) (by omega) (by omega) (by omega) hd (fun H1 e1 z1 o1 => ?_)
                        have hk := k ls H1 locs (cells + 1) (slots + n1) hL (qRel_new hR h0 h1000 e1 z1 o1) (by rw [z1]; exact Nat.le_succ _) hlc (by simp only [qnew]; omega) (by simp only [qnew]; omega)
                        rw [show (.ref H.size : Value) = qV G (.ref (qPi s.1)) by rw [hsz]; show _ = Value.ref (qad G (qPi s.1)); rw [qad_lt G (qPi_sm (by omega)), qPm_Pi]]
                        exact hk
                      · cases hs
                    · cases hs
                  · cases hs
        · cases hs
      · cases hs
    · cases hs
  · cases hs

theorem qstep_all {pc pc' : Nat} {L L' : qLo} {st st' : List Value} {s s2 : qSt} {ls : Array Slot} (hC : qCx G M p s0 m args meth c) (hfr : 6 ≤ R.frames) (hlo : 200 ≤ R.locals) (hL : qLs G ls M.2.2.2.1 L) (hR : qRel G s H) (hz : s0.heap.size ≤ H.size) (hlc : ∀ z ∈ locs, G.1 ≤ z.base) (hcs : cells + (s2.1 + s2.2.1) ≤ R.cells + (s.1 + s.2.1)) (hss : slots + s2.2.2.1 ≤ R.slots + s.2.2.1) (hcc : cells ≤ R.cells ∧ slots ≤ R.slots) {len : Nat} {ins : Instr} (hd : decode M.2.2.1 pc = .ok (ins, len)) (hs : qStep M pc ins len L st s = some (.inl (pc', L', st', s2))) (k : qK G M p l e R s0 m args below meth c H cells slots s Q pc' L' st' s2) : W p l e R s0 m args below meth c H locs cells slots Q (F0 m pc ls (st.map (qV G))) := by
  cases ins
  case iadd => exact qx_iadd hC hfr hlo hL hR hz hlc hcs hss hcc hd hs k
  case isub => exact qx_isub hC hfr hlo hL hR hz hlc hcs hss hcc hd hs k
  case imul => exact qx_imul hC hfr hlo hL hR hz hlc hcs hss hcc hd hs k
  case iand => exact qx_iand hC hfr hlo hL hR hz hlc hcs hss hcc hd hs k
  case ior => exact qx_ior hC hfr hlo hL hR hz hlc hcs hss hcc hd hs k
  case ineg => exact qx_ineg hC hfr hlo hL hR hz hlc hcs hss hcc hd hs k
  case ishl => exact qx_ishl hC hfr hlo hL hR hz hlc hcs hss hcc hd hs k
  case ishr => exact qx_ishr hC hfr hlo hL hR hz hlc hcs hss hcc hd hs k
  case i2d => exact qx_i2d hC hfr hlo hL hR hz hlc hcs hss hcc hd hs k
  case dcmp => exact qx_dcmp hC hfr hlo hL hR hz hlc hcs hss hcc hd hs k
  case iushr => exact qx_iushr hC hfr hlo hL hR hz hlc hcs hss hcc hd hs k
  case i2b => exact qx_i2b hC hfr hlo hL hR hz hlc hcs hss hcc hd hs k
  case i2c => exact qx_i2c hC hfr hlo hL hR hz hlc hcs hss hcc hd hs k
  case idiv => exact qx_idiv hC hfr hlo hL hR hz hlc hcs hss hcc hd hs k
  case irem => exact qx_irem hC hfr hlo hL hR hz hlc hcs hss hcc hd hs k
  case ddiv => exact qx_ddiv hC hfr hlo hL hR hz hlc hcs hss hcc hd hs k
  case iconst => exact qx_iconst hC hfr hlo hL hR hz hlc hcs hss hcc hd hs k
  case bipush => exact qx_bipush hC hfr hlo hL hR hz hlc hcs hss hcc hd hs k
  case sipush => exact qx_sipush hC hfr hlo hL hR hz hlc hcs hss hcc hd hs k
  case dconst => exact qx_dconst hC hfr hlo hL hR hz hlc hcs hss hcc hd hs k
  case iload_n => exact qx_iload_n hC hfr hlo hL hR hz hlc hcs hss hcc hd hs k
  case iload => exact qx_iload hC hfr hlo hL hR hz hlc hcs hss hcc hd hs k
  case aload_n => exact qx_aload_n hC hfr hlo hL hR hz hlc hcs hss hcc hd hs k
  case aload => exact qx_aload hC hfr hlo hL hR hz hlc hcs hss hcc hd hs k
  case dload_n => exact qx_dload_n hC hfr hlo hL hR hz hlc hcs hss hcc hd hs k
  case dload => exact qx_dload hC hfr hlo hL hR hz hlc hcs hss hcc hd hs k
  case istore_n => exact qx_istore_n hC hfr hlo hL hR hz hlc hcs hss hcc hd hs k
  case istore => exact qx_istore hC hfr hlo hL hR hz hlc hcs hss hcc hd hs k
  case astore_n => exact qx_astore_n hC hfr hlo hL hR hz hlc hcs hss hcc hd hs k
  case astore => exact qx_astore hC hfr hlo hL hR hz hlc hcs hss hcc hd hs k
  case dstore_n => exact qx_dstore_n hC hfr hlo hL hR hz hlc hcs hss hcc hd hs k
  case dstore => exact qx_dstore hC hfr hlo hL hR hz hlc hcs hss hcc hd hs k
  case iinc => exact qx_iinc hC hfr hlo hL hR hz hlc hcs hss hcc hd hs k
  case goto => exact qx_goto hC hfr hlo hL hR hz hlc hcs hss hcc hd hs k
  case if_icmp => exact qx_if_icmp hC hfr hlo hL hR hz hlc hcs hss hcc hd hs k
  case ifCond => exact qx_ifCond hC hfr hlo hL hR hz hlc hcs hss hcc hd hs k
  case tableswitch => exact qx_tableswitch hC hfr hlo hL hR hz hlc hcs hss hcc hd hs k
  case dup => exact qx_dup hC hfr hlo hL hR hz hlc hcs hss hcc hd hs k
  case pop => exact qx_pop hC hfr hlo hL hR hz hlc hcs hss hcc hd hs k
  case dup2 => exact qx_dup2 hC hfr hlo hL hR hz hlc hcs hss hcc hd hs k
  case getfield => exact qx_getfield hC hfr hlo hL hR hz hlc hcs hss hcc hd hs k
  case putfield => exact qx_putfield hC hfr hlo hL hR hz hlc hcs hss hcc hd hs k
  case iaload => exact qx_iaload hC hfr hlo hL hR hz hlc hcs hss hcc hd hs k
  case caload => exact qx_caload hC hfr hlo hL hR hz hlc hcs hss hcc hd hs k
  case baload => exact qx_baload hC hfr hlo hL hR hz hlc hcs hss hcc hd hs k
  case aaload => exact qx_aaload hC hfr hlo hL hR hz hlc hcs hss hcc hd hs k
  case iastore => exact qx_iastore hC hfr hlo hL hR hz hlc hcs hss hcc hd hs k
  case castore => exact qx_castore hC hfr hlo hL hR hz hlc hcs hss hcc hd hs k
  case bastore => exact qx_bastore hC hfr hlo hL hR hz hlc hcs hss hcc hd hs k
  case aastore => exact qx_aastore hC hfr hlo hL hR hz hlc hcs hss hcc hd hs k
  case arraylength => exact qx_arraylength hC hfr hlo hL hR hz hlc hcs hss hcc hd hs k
  case getstatic => exact qx_getstatic hC hfr hlo hL hR hz hlc hcs hss hcc hd hs k
  case aconst_null => exact qx_aconst_null hC hfr hlo hL hR hz hlc hcs hss hcc hd hs k
  case ifnonnull => exact qx_ifnonnull hC hfr hlo hL hR hz hlc hcs hss hcc hd hs k
  case checkcast => exact qx_checkcast hC hfr hlo hL hR hz hlc hcs hss hcc hd hs k
  case ldc2_w => exact qx_ldc2_w hC hfr hlo hL hR hz hlc hcs hss hcc hd hs k
  case dmul => exact qx_dmul hC hfr hlo hL hR hz hlc hcs hss hcc hd hs k
  case multianewarray => exact qx_multianewarray hC hfr hlo hL hR hz hlc hcs hss hcc hd hs k
  case new => exact qx_new hC hfr hlo hL hR hz hlc hcs hss hcc hd hs k
  case ldc => exact qx_ldc hC hfr hlo hL hR hz hlc hcs hss hcc hd hs k
  case newarray => exact qx_newarray hC hfr hlo hL hR hz hlc hcs hss hcc hd hs k
  case anewarray => exact qx_anewarray hC hfr hlo hL hR hz hlc hcs hss hcc hd hs k
  case invokestatic => exact qx_invokestatic hC hfr hlo hL hR hz hlc hcs hss hcc hd hs k
  case invokespecial => exact qx_invokespecial hC hfr hlo hL hR hz hlc hcs hss hcc hd hs k
  case invokevirtual => exact qx_invokevirtual hC hfr hlo hL hR hz hlc hcs hss hcc hd hs k
  case ireturn => exact absurd hs (by dsimp only [qStep]; split <;> (try split) <;> (try split) <;> (try split) <;> simp)
  case dreturn => exact absurd hs (by dsimp only [qStep]; split <;> (try split) <;> (try split) <;> (try split) <;> simp)
  case areturn => exact absurd hs (by dsimp only [qStep]; split <;> (try split) <;> (try split) <;> (try split) <;> simp)
  case return_ => exact absurd hs (by dsimp only [qStep]; split <;> (try split) <;> (try split) <;> (try split) <;> simp)
  all_goals exact absurd hs (by dsimp only [qStep]; simp)
end QS3
