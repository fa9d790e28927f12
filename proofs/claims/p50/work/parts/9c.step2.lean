section QS2
variable {G : qG} {M : qM} {p : Program} {l : Launch} {e : Env} {R : Room} {s0 : State} {m : MethodId} {args : Array Value} {below : List Frame} {meth : Method} {c : Code} {H : Heap} {locs : List Loc} {cells slots : Nat} {Q : State → Prop}
theorem qmap_ref (G : qG) (f : Nat → Option Nat) (k v : Nat) (j : Nat) : (va_up f k (some v) j).map (qad G) = va_up (fun j => (f j).map (qad G)) k (some (qad G v)) j := by
  unfold va_up
  split <;> rfl

theorem qx_aastore {pc pc' : Nat} {L L' : qLo} {st st' : List Value} {s s2 : qSt} {ls : Array Slot} (hC : qCx G M p s0 m args meth c) (hfr : 6 ≤ R.frames) (hlo : 200 ≤ R.locals) (hL : qLs G ls M.2.2.2.1 L) (hR : qRel G s H) (hz : s0.heap.size ≤ H.size) (hlc : ∀ z ∈ locs, G.1 ≤ z.base) (hcs : cells + (s2.1 + s2.2.1) ≤ R.cells + (s.1 + s.2.1)) (hss : slots + s2.2.2.1 ≤ R.slots + s.2.2.1) (hcc : cells ≤ R.cells ∧ slots ≤ R.slots) {len : Nat}  (hd : decode M.2.2.1 pc = .ok (.aastore, len)) (hs : qStep M pc (.aastore) len L st s = some (.inl (pc', L', st', s2))) (k : qK G M p l e R s0 m args below meth c H cells slots s Q pc' L' st' s2) : W p l e R s0 m args below meth c H locs cells slots Q (F0 m pc ls (st.map (qV G))) := by
  obtain ⟨hx, hb, hml, hnm, hown, hts, hret, hlk, hTB, hH0⟩ := hC
  dsimp only [qStep] at hs
  split at hs
  · rename_i hlen; subst hlen
    split at hs
    · rename_i v i a rest
      split at hs
      · rename_i n f hq
        obtain ⟨he, ha⟩ := qaq_ok hq
        split at hs
        · cases hs
        · rename_i hin0
          have hin : ¬ (i < 0 ∨ n ≤ i.toNatClampNeg) := fun z => hin0 (Or.inl z)
          have hv0 : qcls s v = some 0 := Classical.byContradiction fun z => hin0 (Or.inr z)
          obtain ⟨vs, hev, hv⟩ := qcls_ok hv0
          obtain ⟨rfl, rfl, rfl, rfl⟩ := qgo_eq hs
          have hw' := qW_at (G := G) ha
          rw [he] at hw'
          have hwv := qW_at (G := G) hv
          rw [hev] at hwv
          show W p l e R s0 m args below meth c H locs cells slots Q (F0 m pc ls (.ref (qad G v) :: .int i :: .ref (qad G a) :: List.map (qV G) rest))
          rw [qRel_lt hR ha, qRel_lt hR hv]
          have hlt : i.toNatClampNeg < n := Nat.not_le.mp fun q => hin (Or.inr q)
          have h0 : ¬ i < 0 := fun q => hin (Or.inl q)
          have hK := hTB.1
          obtain ⟨r', hr', cellV, g1, g2, g3, -⟩ := hR.2.2.2.1 (qPm v) _ hwv
          have hcls := (hK.1 0 _ rfl).2
          obtain ⟨kA, comp, k1, k2, k3, -⟩ := (hK.2 5 _ rfl).2
          have hcomp : comp = G.2.2.2.1.1 0 := Option.some.inj (k3.symm.trans hcls.1)
          subst hcomp
          obtain ⟨kC, hkC, -⟩ := hcls.2
          refine W.aast hx hb (hR.2.2.2.1 (qPm a) _ hw') (fun q h => by cases h) (fun h => by cases h) k1 k2 rfl hkC ⟨h0, by show _ < (arrV _ _ _).slots.size; rw [arrV_size]; exact hlt⟩ g1 (fun q h => by rw [g3] at h; cases h) (by rw [g2]; exact hkC) (by rw [g2]; exact va_assign hcls) rfl rfl hd fun H1 e1 z oq => ?_
          refine k ls H1 _ cells slots hL (qRel_put hR ha ?_ z oq) (by rw [z]; exact Nat.le_refl _) (qlocs hlc) rfl rfl
          show H1[G.1 + qPm a]? = some (vp_cell _ _)
          rw [e1]
          show some (Cell.setSlot (vp_cell _ (n, .inr (.inr (.inr (.inr (fun j => (f j).map (qad G))))))) _ _) = some (vp_cell _ (n, .inr (.inr (.inr (.inr (fun j => (va_up f i.toNatClampNeg (some v) j).map (qad G)))))))
          rw [vp_cell_q, vp_cell_q, arrV_store]
          congr 2
          funext q
          rw [qmap_ref, qRel_lt hR hv]
          by_cases hq : q = i.toNatClampNeg
          · subst hq
            simp [updV, va_up, va_rf]
          · simp [updV, va_up, hq]
      · cases hs
    · cases hs
  · cases hs

theorem qx_new {pc pc' : Nat} {L L' : qLo} {st st' : List Value} {s s2 : qSt} {ls : Array Slot} (hC : qCx G M p s0 m args meth c) (hfr : 6 ≤ R.frames) (hlo : 200 ≤ R.locals) (hL : qLs G ls M.2.2.2.1 L) (hR : qRel G s H) (hz : s0.heap.size ≤ H.size) (hlc : ∀ z ∈ locs, G.1 ≤ z.base) (hcs : cells + (s2.1 + s2.2.1) ≤ R.cells + (s.1 + s.2.1)) (hss : slots + s2.2.2.1 ≤ R.slots + s.2.2.1) (hcc : cells ≤ R.cells ∧ slots ≤ R.slots) {len : Nat} {i : Nat} (hd : decode M.2.2.1 pc = .ok (.new i, len)) (hs : qStep M pc (.new i) len L st s = some (.inl (pc', L', st', s2))) (k : qK G M p l e R s0 m args below meth c H cells slots s Q pc' L' st' s2) : W p l e R s0 m args below meth c H locs cells slots Q (F0 m pc ls (st.map (qV G))) := by
  obtain ⟨hx, hb, hml, hnm, hown, hts, hret, hlk, hTB, hH0⟩ := hC
  dsimp only [qStep] at hs
  split at hs
  · rename_i hlen; subst hlen
    split at hs
    · rename_i ci hn
      split at hs
      · rename_i hcond
        obtain ⟨h0, h1000⟩ := hcond
        obtain ⟨rfl, rfl, rfl, rfl⟩ := qgo_eq hs
        obtain ⟨q, hq, w1, w2, w3⟩ := qTn_ok hn
        obtain ⟨hin, hty, hnmq, hlen⟩ := qcl_in hq
        obtain ⟨hdv, hdf⟩ := qdef_V G hq
        have hK := hTB.1
        have hKn := hK.1 ci _ hq
        simp only [qnew] at hcs hss
        refine W.newcK hx hb hown (hts _ w1) (hts _ w2) (hts _ w3) rfl hd (by omega) (by rw [← hlen]; omega) hKn.2.1 rfl fun H1 kC hkC e1 z1 o1 => ?_
        have hsz := hR.2.1 h0
        have hk := k ls H1 locs (cells + 1) (slots + q.2.2) hL (qRel_new hR h0 h1000 ?_ z1 o1) (by rw [z1]; exact Nat.le_succ _) hlc (by simp only [qnew]; omega) (by simp only [qnew]; rw [hlen]; omega)
        · rw [show (.ref H.size : Value) = qV G (.ref (qPi s.1)) by rw [hsz]; show _ = Value.ref (qad G (qPi s.1)); rw [qad_lt G (by unfold qPi; split <;> (try split) <;> omega), qPm_Pi]]
          exact hk
        · refine ⟨_, hq, ?_⟩
          rw [hdv]
          exact (u_born (qty ci) hts hin hKn hkC e1 hty).to hdf
      · cases hs
    · rename_i hn
      split at hs
      · split at hs
        · split at hs
          · split at hs <;> cases hs
          · cases hs
        · cases hs
      · split at hs
        · split at hs
          · split at hs <;> cases hs
          · cases hs
        · cases hs
      · cases hs
  · cases hs

theorem qx_newarray {pc pc' : Nat} {L L' : qLo} {st st' : List Value} {s s2 : qSt} {ls : Array Slot} (hC : qCx G M p s0 m args meth c) (hfr : 6 ≤ R.frames) (hlo : 200 ≤ R.locals) (hL : qLs G ls M.2.2.2.1 L) (hR : qRel G s H) (hz : s0.heap.size ≤ H.size) (hlc : ∀ z ∈ locs, G.1 ≤ z.base) (hcs : cells + (s2.1 + s2.2.1) ≤ R.cells + (s.1 + s.2.1)) (hss : slots + s2.2.2.1 ≤ R.slots + s.2.2.1) (hcc : cells ≤ R.cells ∧ slots ≤ R.slots) {len : Nat} {t : ArrayType} (hd : decode M.2.2.1 pc = .ok (.newarray t, len)) (hs : qStep M pc (.newarray t) len L st s = some (.inl (pc', L', st', s2))) (k : qK G M p l e R s0 m args below meth c H cells slots s Q pc' L' st' s2) : W p l e R s0 m args below meth c H locs cells slots Q (F0 m pc ls (st.map (qV G))) := by
  obtain ⟨hx, hb, hml, hnm, hown, hts, hret, hlk, hTB, hH0⟩ := hC
  dsimp only [qStep] at hs
  split at hs
  · rename_i hlen; subst hlen
    split at hs
    · rename_i n rest
      split at hs
      · rename_i kd hkd
        split at hs
        · cases hs
        · rename_i hcond
          have hn0 : ¬ n < 0 := fun z => hcond (Or.inl z)
          have hn1 : ¬ 10000 < n.toNatClampNeg := fun z => hcond (Or.inr (Or.inl z))
          have h0 : s.2.1 = 0 := Classical.byContradiction fun z => hcond (Or.inr (Or.inr (Or.inl z)))
          have h1000 : s.1 < 1000 := Nat.not_le.mp fun z => hcond (Or.inr (Or.inr (Or.inr z)))
          obtain ⟨rfl, rfl, rfl, rfl⟩ := qgo_eq hs
          have hsz := hR.2.1 h0
          simp only [qnew] at hcs hss
          have hcA : (Cond.arrayClass (newarray.typeOf t)).before args s0 = true ∧ componentBytes (newarray.typeOf t) ≤ 8 ∧ (qtys G)[kd]? = some (G.2.2.2.2.1 kd, newarray.typeOf t) ∧ (∀ N cA, vp_cell cA (qzero N) = arrV cA N (fun _ => defaultValue (newarray.typeOf t))) ∧ ∀ N, qAm G (qzero N) = qzero N := by
            cases t <;> simp only [qatype, Option.some.injEq, reduceCtorEq] at hkd <;> subst hkd
            · exact ⟨hts _ (qarr_w _ (by simp [newarray.typeOf])), by decide, rfl, fun N cA => rfl, fun N => rfl⟩
            · exact ⟨hts _ (qarr_w _ (by simp [newarray.typeOf])), by decide, rfl, fun N cA => rfl, fun N => rfl⟩
            · exact ⟨hts _ (qarr_w _ (by simp [newarray.typeOf])), by decide, rfl, fun N cA => rfl, fun N => rfl⟩
          obtain ⟨w1, w2, w3, w4, w5⟩ := hcA
          have hbytes : n.toNatClampNeg * componentBytes (newarray.typeOf t) ≤ 536870912 := Nat.le_trans (Nat.mul_le_mul (Nat.not_lt.mp hn1) w2) (by decide)
          refine va_newaK hx hb w1 rfl hd rfl hn0 rfl hbytes (by omega) (by omega) rfl fun H1 cA e1 z1 o1 hAr hNm => ?_
          have hcy : cA = G.2.2.2.2.1 kd := by
            have h2 := (hTB.1.2 kd _ w3).2
            have h3 : s0.vm.findClass ("[" ++ (newarray.typeOf t).toString) = some (G.2.2.2.2.1 kd) := by
              cases t <;> exact h2
            exact Option.some.inj (hNm.symm.trans h3)
          have hk := k ls H1 locs (cells + 1) (slots + n.toNatClampNeg) hL (qRel_new hR h0 h1000 ?_ z1 o1) (by rw [z1]; exact Nat.le_succ _) hlc (by simp only [qnew]; omega) (by simp only [qnew]; omega)
          · rw [show (.ref H.size : Value) = qV G (.ref (qPi s.1)) by rw [hsz]; show _ = Value.ref (qad G (qPi s.1)); rw [qad_lt G (by unfold qPi; split <;> (try split) <;> omega), qPm_Pi]]
            exact hk
          · show H1[H.size]? = some (vp_cell _ (qAm G (qzero n.toNatClampNeg)))
            rw [w5, w4, e1, hcy]
      · cases hs
    · cases hs
  · cases hs

theorem qx_anewarray {pc pc' : Nat} {L L' : qLo} {st st' : List Value} {s s2 : qSt} {ls : Array Slot} (hC : qCx G M p s0 m args meth c) (hfr : 6 ≤ R.frames) (hlo : 200 ≤ R.locals) (hL : qLs G ls M.2.2.2.1 L) (hR : qRel G s H) (hz : s0.heap.size ≤ H.size) (hlc : ∀ z ∈ locs, G.1 ≤ z.base) (hcs : cells + (s2.1 + s2.2.1) ≤ R.cells + (s.1 + s.2.1)) (hss : slots + s2.2.2.1 ≤ R.slots + s.2.2.1) (hcc : cells ≤ R.cells ∧ slots ≤ R.slots) {len : Nat} {i : Nat} (hd : decode M.2.2.1 pc = .ok (.anewarray i, len)) (hs : qStep M pc (.anewarray i) len L st s = some (.inl (pc', L', st', s2))) (k : qK G M p l e R s0 m args below meth c H cells slots s Q pc' L' st' s2) : W p l e R s0 m args below meth c H locs cells slots Q (F0 m pc ls (st.map (qV G))) := by
  obtain ⟨hx, hb, hml, hnm, hown, hts, hret, hlk, hTB, hH0⟩ := hC
  dsimp only [qStep] at hs
  split at hs
  · rename_i hlen; subst hlen
    split at hs
    · rename_i n rest
      split at hs
      · cases hs
      · rename_i hcond
        have hn0 : ¬ n < 0 := fun z => hcond (Or.inl z)
        have hn1 : ¬ 10000 < n.toNatClampNeg := fun z => hcond (Or.inr (Or.inl z))
        have h0 : s.2.1 = 0 := Classical.byContradiction fun z => hcond (Or.inr (Or.inr (Or.inl z)))
        have h1000 : s.1 < 1000 := Nat.not_le.mp fun z => hcond (Or.inr (Or.inr (Or.inr (Or.inl z))))
        have hMi : M.1 = 2 ∧ i = 9 := Classical.byContradiction fun z => hcond (Or.inr (Or.inr (Or.inr (Or.inr z))))
        obtain ⟨hM2, rfl⟩ := hMi
        obtain ⟨rfl, rfl, rfl, rfl⟩ := qgo_eq hs
        have hsz := hR.2.1 h0
        simp only [qnew] at hcs hss
        rw [hM2] at hown
        have w1 : (Cond.classLink (qNm 2) 9 RX1).before args s0 = true := hts _ (qta_w _ List.mem_cons_self)
        refine W.anew hx hb hown w1 (va_AO.use hTB.2.2.1) rfl hd rfl hn0 (by omega) (by omega) (by omega) fun cA kA comp f1 f2 f3 f4 => ?_
        generalize hH1 : H.push ({ cls := cA, slots := Array.replicate n.toNatClampNeg .null, vm := .none } : Cell) = H1
        have z1 : H1.size = H.size + 1 := by rw [← hH1, Array.size_push]
        have e1 : H1[H.size]? = some (arrV cA n.toNatClampNeg (fun _ => .null)) := by rw [← hH1, Array.getElem?_push_size, ← arrV_new]
        have o1 : ∀ q : Nat, q < H.size → H1[q]? = H[q]? := fun q hq => by rw [← hH1, Array.getElem?_push, if_neg (Nat.ne_of_lt hq)]
        have hcy : cA = G.2.2.2.2.1 5 := by
          obtain ⟨-, -, -, -, -, h2⟩ := (hTB.1.2 5 _ rfl).2
          exact Option.some.inj (f1.symm.trans h2)
        have hk := k ls H1 locs (cells + 1) (slots + n.toNatClampNeg) hL (qRel_new hR h0 h1000 ?_ z1 o1) (by rw [z1]; exact Nat.le_succ _) hlc (by simp only [qnew]; omega) (by simp only [qnew]; omega)
        · rw [show (.ref H.size : Value) = qV G (.ref (qPi s.1)) by rw [hsz]; show _ = Value.ref (qad G (qPi s.1)); rw [qad_lt G (by unfold qPi; split <;> (try split) <;> omega), qPm_Pi]]
          exact hk
        · show H1[H.size]? = some (vp_cell _ _)
          rw [e1, hcy]
          rfl
    · cases hs
  · cases hs
end QS2
