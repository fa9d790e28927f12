section QS4
variable {G : qG} {M : qM} {p : Program} {l : Launch} {e : Env} {R : Room} {s0 : State} {m : MethodId} {args : Array Value} {below : List Frame} {meth : Method} {c : Code} {H : Heap} {locs : List Loc} {cells slots : Nat} {Q : State → Prop}
theorem qad_str {j : Nat} (h : 1000000 ≤ j) : qad G j = G.2.1 (j - 1000000) := by
  unfold qad
  rw [if_neg (by omega)]
theorem qJD {s : State} (h : qTB G s) (h0 : ∀ q, q < G.1 → s.heap[q]? = G.2.2.2.2.2.1[q]?) : va_Z "java/lang/Integer" "DigitOnes" "[B" (.ref (G.2.1 300)) (qA G) s s.heap ∧ va_T .byte (G.2.1 300) 100 (fun j => .int (Int32.ofNat (48 + j % 10))) (qA G) s s.heap := by
  obtain ⟨h1, h2, h3, h4, h5, h6, h7, h8, h9, h10, h11, h12, h13, h14, h15, h16, h17, h18⟩ := h
  have hk : ∀ a : Nat, a < G.2.2.2.2.2.1.size → ¬ qA G a → s.heap[a]? = G.2.2.2.2.2.1[a]? := fun a _ hA => h0 a (Nat.not_le.mp hA)
  exact ⟨h17.kept hk, h18.kept hk⟩
theorem qTB.aoa {s : State} (h : qTB G s) : va_AOA .int s ∧ va_Nw (.castable "[B" "java/lang/Cloneable") s := by
  obtain ⟨h1, h2, h3, h4, h5, h6, h7, h8, h9, h10, h11, h12, h13, h14, h15, h16, h17, h18⟩ := h
  exact ⟨h15, h16⟩
theorem qxt_ok : ∀ j, j < 10 → ∀ k, k < (qStr j).length → (qSbyt.getD j []).getD k 0 = qxt j k := by
  have h : ∀ j, j < 10 → ∀ k, k < 8 → (qSbyt.getD j []).getD k 0 = qxt j k := by decide +kernel
  intro j hj k hk
  exact h j hj k (by have := (qSlen_ok j hj).2; omega)
theorem qsub100 {x : Nat} (h : 1000000 ≤ x) : x + 100 - 1000000 = 100 + (x - 1000000) := by omega
/-- the bytes that were there before -/
theorem qxb_T {s : State} (h : qTB G s) (h0 : ∀ q, q < G.1 → s.heap[q]? = G.2.2.2.2.2.1[q]?) {b n : Nat} {f : Nat → Int32} (hb : qxb b = some (n, f)) : 1000000 ≤ b ∧ va_T .byte (qad G b) n (fun j => .int (f j)) (qA G) s s.heap := by
  unfold qxb at hb
  split at hb
  · rename_i hb0
    subst hb0
    cases hb
    refine ⟨by omega, ?_⟩
    rw [qad_str (by omega)]
    exact (qJD h h0).2
  · split at hb
    · rename_i hr
      obtain ⟨jb, hjb⟩ : ∃ jb, jb = b - 1000100 := ⟨_, rfl⟩
      rw [← hjb] at hb
      cases hb
      refine ⟨by omega, ?_⟩
      obtain ⟨z1, z2, z3, z4⟩ := qJS h h0 (j := jb) (by omega)
      rw [qad_str (by omega), show b - 1000000 = 100 + jb by omega]
      obtain ⟨e1, e2⟩ := qSlen_ok jb (by omega)
      obtain ⟨cell, c1, c2, c3, c4, c5, c6, c7⟩ := z4
      refine ⟨cell, c1, c2, c3, ?_, ?_, fun j hj => ?_, c7⟩
      · show (qStr jb).length ≤ _
        rw [← e1]
        exact c4
      · show _ = Int32.ofNat (qStr jb).length
        rw [← e1]
        exact c5
      · have hj : j < (qStr jb).length := hj
        rw [c6 j (by rw [e1]; exact hj)]
        exact congrArg (fun z => some (Value.int z)) (qxt_ok jb (by omega) j (by omega))
    · cases hb
theorem qby_ok {s : qSt} {a n : Nat} {f : Nat → Int32} (h : qby s a = some (n, f)) : (s.2.2.2 a = .inr (1, n, .inl f) ∧ (qPm a < s.1 ∨ a = 1001000)) ∨ qxb a = some (n, f) := by
  unfold qby at h
  split at h
  · rename_i q hq
    cases h
    exact Or.inl (qai_ok hq)
  · exact Or.inr h
theorem qrel_b {s : qSt} {a n : Nat} {f : Nat → Int32} (hR : qRel G s H) (he : s.2.2.2 a = .inr (1, n, .inl f)) (ha : qPm a < s.1 ∨ a = 1001000) : qPm a < s.1 := by
  rcases ha with ha | ha
  · exact ha
  · have := hR.2.2.2.2.2
    rw [← ha, he] at this
    cases this

theorem qx_getfield {pc pc' : Nat} {L L' : qLo} {st st' : List Value} {s s2 : qSt} {ls : Array Slot} (hC : qCx G M p s0 m args meth c) (hfr : 6 ≤ R.frames) (hlo : 200 ≤ R.locals) (hL : qLs G ls M.2.2.2.1 L) (hR : qRel G s H) (hz : s0.heap.size ≤ H.size) (hlc : ∀ z ∈ locs, G.1 ≤ z.base) (hcs : cells + (s2.1 + s2.2.1) ≤ R.cells + (s.1 + s.2.1)) (hss : slots + s2.2.2.1 ≤ R.slots + s.2.2.1) (hcc : cells ≤ R.cells ∧ slots ≤ R.slots) {len : Nat} {i : Nat} (hd : decode M.2.2.1 pc = .ok (.getfield i, len)) (hs : qStep M pc (.getfield i) len L st s = some (.inl (pc', L', st', s2))) (k : qK G M p l e R s0 m args below meth c H cells slots s Q pc' L' st' s2) : W p l e R s0 m args below meth c H locs cells slots Q (F0 m pc ls (st.map (qV G))) := by
  obtain ⟨hx, hb, hml, hnm, hown, hts, hret, hlk, hTB, hH0⟩ := hC
  dsimp only [qStep] at hs
  split at hs
  · rename_i hlen; subst hlen
    split at hs
    · rename_i a rest
      split at hs
      · rename_i ci kf hf
        obtain ⟨q, hq, hkq, hw⟩ := qTf_ok hf
        split at hs
        · rename_i fs hob
          split at hs
          · rename_i v hv
            obtain ⟨rfl, rfl, rfl, rfl⟩ := qgo_eq hs
            obtain ⟨he, ha⟩ := qob_ok hob
            have hw' := qW_at (G := G) ha
            rw [he] at hw'
            show W p l e R s0 m args below meth c H locs cells slots Q (F0 m pc ls (.ref (qad G a) :: List.map (qV G) rest))
            rw [qRel_lt hR ha]
            exact va_get hx hb hts (qcl_in hq).1 hown hTB.1 hR.2.2.2.1 (qPm a) hw' hq kf hkq (hts _ hw) (fun _ h => h) (v := qV G v) (by rw [List.getElem?_map, hv]; rfl) hd (k ls H locs cells slots hL hR (Nat.le_refl _) hlc rfl rfl)
          · cases hs
        · split at hs
          · rename_i h0
            obtain ⟨hj, rfl, rfl⟩ := h0
            obtain ⟨rfl, rfl, rfl, rfl⟩ := qgo_eq hs
            cases hq
            have hr := qistr_rg hj
            obtain ⟨z1, z2, z3, z4⟩ := qJS hTB hH0 (j := a - 1000000) (by omega)
            have hk := (k ls H locs cells slots hL hR (Nat.le_refl _) hlc rfl rfl)
            have e1 : qV G (.ref (a + 100)) = .ref (G.2.1 (100 + (a - 1000000))) := by
              show Value.ref (qad G (a + 100)) = _
              rw [qad_str (by omega), qsub100 hr.1]
            rw [List.map_cons, e1] at hk
            show W p l e R s0 m args below meth c H locs cells slots Q (F0 m pc ls (.ref (qad G a) :: List.map (qV G) rest))
            rw [qad_str hr.1]
            exact vk_getf hx hb z3 (qRel_S hR hH0 hz hlc) hown (hts _ hw) (fun _ h => h) hd hk
          · split at hs
            · rename_i h0
              obtain ⟨hj, rfl, rfl⟩ := h0
              obtain ⟨rfl, rfl, rfl, rfl⟩ := qgo_eq hs
              cases hq
              have hr := qistr_rg hj
              obtain ⟨z1, z2, z3, z4⟩ := qJS hTB hH0 (j := a - 1000000) (by omega)
              have hk := (k ls H locs cells slots hL hR (Nat.le_refl _) hlc rfl rfl)
              show W p l e R s0 m args below meth c H locs cells slots Q (F0 m pc ls (.ref (qad G a) :: List.map (qV G) rest))
              rw [qad_str hr.1]
              exact vk_getf hx hb z2 (qRel_S hR hH0 hz hlc) hown (hts _ hw) (fun _ h => h) hd hk
            · cases hs
      · cases hs
    · cases hs
  · cases hs

theorem qx_getstatic {pc pc' : Nat} {L L' : qLo} {st st' : List Value} {s s2 : qSt} {ls : Array Slot} (hC : qCx G M p s0 m args meth c) (hfr : 6 ≤ R.frames) (hlo : 200 ≤ R.locals) (hL : qLs G ls M.2.2.2.1 L) (hR : qRel G s H) (hz : s0.heap.size ≤ H.size) (hlc : ∀ z ∈ locs, G.1 ≤ z.base) (hcs : cells + (s2.1 + s2.2.1) ≤ R.cells + (s.1 + s.2.1)) (hss : slots + s2.2.2.1 ≤ R.slots + s.2.2.1) (hcc : cells ≤ R.cells ∧ slots ≤ R.slots) {len : Nat} {i : Nat} (hd : decode M.2.2.1 pc = .ok (.getstatic i, len)) (hs : qStep M pc (.getstatic i) len L st s = some (.inl (pc', L', st', s2))) (k : qK G M p l e R s0 m args below meth c H cells slots s Q pc' L' st' s2) : W p l e R s0 m args below meth c H locs cells slots Q (F0 m pc ls (st.map (qV G))) := by
  obtain ⟨hx, hb, hml, hnm, hown, hts, hret, hlk, hTB, hH0⟩ := hC
  dsimp only [qStep] at hs
  split at hs
  · rename_i hlen; subst hlen
    split at hs
    · rename_i kk hk
      have hw := qTg_ok hk
      split at hs
      · rename_i h0
        obtain ⟨rfl, rfl, rfl, rfl⟩ := qgo_eq hs
        rw [if_pos h0] at hw
        exact va_gets hx hb (qJZ hTB hH0) (qRel_S hR hH0 hz hlc) hown (hts _ hw) (fun _ h => h) hd (k ls H locs cells slots hL hR (Nat.le_refl _) hlc rfl rfl)
      · rename_i h0
        obtain ⟨rfl, rfl, rfl, rfl⟩ := qgo_eq hs
        rw [if_neg h0] at hw
        have hk2 := (k ls H locs cells slots hL hR (Nat.le_refl _) hlc rfl rfl)
        have e1 : qV G (.ref 1000300) = .ref (G.2.1 300) := by
          show Value.ref (qad G 1000300) = _
          rw [qad_str (by omega)]
        rw [List.map_cons, e1] at hk2
        exact va_gets hx hb (qJD hTB hH0).1 (qRel_S hR hH0 hz hlc) hown (hts _ hw) (fun _ h => h) hd hk2
    · cases hs
  · cases hs

theorem qx_aconst_null {pc pc' : Nat} {L L' : qLo} {st st' : List Value} {s s2 : qSt} {ls : Array Slot} (hC : qCx G M p s0 m args meth c) (hfr : 6 ≤ R.frames) (hlo : 200 ≤ R.locals) (hL : qLs G ls M.2.2.2.1 L) (hR : qRel G s H) (hz : s0.heap.size ≤ H.size) (hlc : ∀ z ∈ locs, G.1 ≤ z.base) (hcs : cells + (s2.1 + s2.2.1) ≤ R.cells + (s.1 + s.2.1)) (hss : slots + s2.2.2.1 ≤ R.slots + s.2.2.1) (hcc : cells ≤ R.cells ∧ slots ≤ R.slots) {len : Nat}  (hd : decode M.2.2.1 pc = .ok (.aconst_null, len)) (hs : qStep M pc (.aconst_null) len L st s = some (.inl (pc', L', st', s2))) (k : qK G M p l e R s0 m args below meth c H cells slots s Q pc' L' st' s2) : W p l e R s0 m args below meth c H locs cells slots Q (F0 m pc ls (st.map (qV G))) := by
  obtain ⟨hx, hb, hml, hnm, hown, hts, hret, hlk, hTB, hH0⟩ := hC
  dsimp only [qStep] at hs
  split at hs
  · rename_i hlen; subst hlen
    obtain ⟨rfl, rfl, rfl, rfl⟩ := qgo_eq hs
    exact lv_null hx hb hd (k ls H locs cells slots hL hR (Nat.le_refl _) hlc rfl rfl)
  · cases hs

theorem qx_ifnonnull {pc pc' : Nat} {L L' : qLo} {st st' : List Value} {s s2 : qSt} {ls : Array Slot} (hC : qCx G M p s0 m args meth c) (hfr : 6 ≤ R.frames) (hlo : 200 ≤ R.locals) (hL : qLs G ls M.2.2.2.1 L) (hR : qRel G s H) (hz : s0.heap.size ≤ H.size) (hlc : ∀ z ∈ locs, G.1 ≤ z.base) (hcs : cells + (s2.1 + s2.2.1) ≤ R.cells + (s.1 + s.2.1)) (hss : slots + s2.2.2.1 ≤ R.slots + s.2.2.1) (hcc : cells ≤ R.cells ∧ slots ≤ R.slots) {len : Nat} {off : Int} (hd : decode M.2.2.1 pc = .ok (.ifnonnull off, len)) (hs : qStep M pc (.ifnonnull off) len L st s = some (.inl (pc', L', st', s2))) (k : qK G M p l e R s0 m args below meth c H cells slots s Q pc' L' st' s2) : W p l e R s0 m args below meth c H locs cells slots Q (F0 m pc ls (st.map (qV G))) := by
  obtain ⟨hx, hb, hml, hnm, hown, hts, hret, hlk, hTB, hH0⟩ := hC
  dsimp only [qStep] at hs
  split at hs
  · rename_i hlen; subst hlen
    split at hs
    · rename_i a rest
      split at hs
      · rename_i h0
        obtain ⟨rfl, rfl, rfl, rfl⟩ := qgo_eq hs
        exact lv_ifnonnull hx hb hd (by omega) (k ls H locs cells slots hL hR (Nat.le_refl _) hlc rfl rfl)
      · cases hs
    · cases hs
  · cases hs

theorem qx_checkcast {pc pc' : Nat} {L L' : qLo} {st st' : List Value} {s s2 : qSt} {ls : Array Slot} (hC : qCx G M p s0 m args meth c) (hfr : 6 ≤ R.frames) (hlo : 200 ≤ R.locals) (hL : qLs G ls M.2.2.2.1 L) (hR : qRel G s H) (hz : s0.heap.size ≤ H.size) (hlc : ∀ z ∈ locs, G.1 ≤ z.base) (hcs : cells + (s2.1 + s2.2.1) ≤ R.cells + (s.1 + s.2.1)) (hss : slots + s2.2.2.1 ≤ R.slots + s.2.2.1) (hcc : cells ≤ R.cells ∧ slots ≤ R.slots) {len : Nat} {i : Nat} (hd : decode M.2.2.1 pc = .ok (.checkcast i, len)) (hs : qStep M pc (.checkcast i) len L st s = some (.inl (pc', L', st', s2))) (k : qK G M p l e R s0 m args below meth c H cells slots s Q pc' L' st' s2) : W p l e R s0 m args below meth c H locs cells slots Q (F0 m pc ls (st.map (qV G))) := by
  obtain ⟨hx, hb, hml, hnm, hown, hts, hret, hlk, hTB, hH0⟩ := hC
  dsimp only [qStep] at hs
  split at hs
  · rename_i hlen; subst hlen
    split at hs
    · rename_i a rest
      split at hs
      · rename_i h0
        obtain ⟨hM, rfl, hq, hne⟩ := h0
        obtain ⟨rfl, rfl, rfl, rfl⟩ := qgo_eq hs
        cases hq2 : qai s a 1 with
        | none => rw [hq2] at hq; cases hq
        | some q =>
          obtain ⟨n, f⟩ := q
          obtain ⟨he, ha⟩ := qai_ok hq2
          have ha := qrel_b hR he ha
          have hw' := qW_at (G := G) ha
          rw [he] at hw'
          show W p l e R s0 m args below meth c H locs cells slots Q (F0 m pc ls (.ref (qad G a) :: List.map (qV G) rest))
          have hk := (k ls H locs cells slots hL hR (Nat.le_refl _) hlc rfl rfl)
          have e1 : (qV G (.ref a)) = .ref (qad G a) := rfl
          rw [List.map_cons, e1] at hk
          rw [qRel_lt hR ha] at hk ⊢
          have hcl : (Cond.classLink (qNm M.1) 311 "[B").before args s0 = true := by
            rw [hM, show qNm 16 = RJ7 from rfl]
            exact hts _ (gw_all _ qCln_w _ (by simp))
          exact va_castA hx hb hown hcl hR.2.2.2.1 (qPm a) hw' ((hTB.1.2 1 _ rfl).2) hd hk
      · cases hs
    · cases hs
  · cases hs

theorem qx_ldc2_w {pc pc' : Nat} {L L' : qLo} {st st' : List Value} {s s2 : qSt} {ls : Array Slot} (hC : qCx G M p s0 m args meth c) (hfr : 6 ≤ R.frames) (hlo : 200 ≤ R.locals) (hL : qLs G ls M.2.2.2.1 L) (hR : qRel G s H) (hz : s0.heap.size ≤ H.size) (hlc : ∀ z ∈ locs, G.1 ≤ z.base) (hcs : cells + (s2.1 + s2.2.1) ≤ R.cells + (s.1 + s.2.1)) (hss : slots + s2.2.2.1 ≤ R.slots + s.2.2.1) (hcc : cells ≤ R.cells ∧ slots ≤ R.slots) {len : Nat} {i : Nat} (hd : decode M.2.2.1 pc = .ok (.ldc2_w i, len)) (hs : qStep M pc (.ldc2_w i) len L st s = some (.inl (pc', L', st', s2))) (k : qK G M p l e R s0 m args below meth c H cells slots s Q pc' L' st' s2) : W p l e R s0 m args below meth c H locs cells slots Q (F0 m pc ls (st.map (qV G))) := by
  obtain ⟨hx, hb, hml, hnm, hown, hts, hret, hlk, hTB, hH0⟩ := hC
  dsimp only [qStep] at hs
  split at hs
  · rename_i h0
    obtain ⟨rfl, hM, rfl⟩ := h0
    obtain ⟨rfl, rfl, rfl, rfl⟩ := qgo_eq hs
    have hcl : (Cond.constantDouble (qNm M.1) 167 4611686018427387904).before args s0 = true := by
      rw [hM]
      exact hts _ (gw_all _ qTd_w _ List.mem_cons_self)
    exact lv_ldc2d hx hb hown hcl hd (k ls H locs cells slots hL hR (Nat.le_refl _) hlc rfl rfl)
  · cases hs

theorem qx_dmul {pc pc' : Nat} {L L' : qLo} {st st' : List Value} {s s2 : qSt} {ls : Array Slot} (hC : qCx G M p s0 m args meth c) (hfr : 6 ≤ R.frames) (hlo : 200 ≤ R.locals) (hL : qLs G ls M.2.2.2.1 L) (hR : qRel G s H) (hz : s0.heap.size ≤ H.size) (hlc : ∀ z ∈ locs, G.1 ≤ z.base) (hcs : cells + (s2.1 + s2.2.1) ≤ R.cells + (s.1 + s.2.1)) (hss : slots + s2.2.2.1 ≤ R.slots + s.2.2.1) (hcc : cells ≤ R.cells ∧ slots ≤ R.slots) {len : Nat}  (hd : decode M.2.2.1 pc = .ok (.dmul, len)) (hs : qStep M pc (.dmul) len L st s = some (.inl (pc', L', st', s2))) (k : qK G M p l e R s0 m args below meth c H cells slots s Q pc' L' st' s2) : W p l e R s0 m args below meth c H locs cells slots Q (F0 m pc ls (st.map (qV G))) := by
  obtain ⟨hx, hb, hml, hnm, hown, hts, hret, hlk, hTB, hH0⟩ := hC
  dsimp only [qStep] at hs
  split at hs
  · rename_i hlen; subst hlen
    split at hs
    · split at hs
      · rename_i hne
        obtain ⟨rfl, rfl, rfl, rfl⟩ := qgo_eq hs
        exact lv_dmul hx hb hd hne (k ls H locs cells slots hL hR (Nat.le_refl _) hlc rfl rfl)
      · cases hs
    · cases hs
  · cases hs

theorem qx_baload {pc pc' : Nat} {L L' : qLo} {st st' : List Value} {s s2 : qSt} {ls : Array Slot} (hC : qCx G M p s0 m args meth c) (hfr : 6 ≤ R.frames) (hlo : 200 ≤ R.locals) (hL : qLs G ls M.2.2.2.1 L) (hR : qRel G s H) (hz : s0.heap.size ≤ H.size) (hlc : ∀ z ∈ locs, G.1 ≤ z.base) (hcs : cells + (s2.1 + s2.2.1) ≤ R.cells + (s.1 + s.2.1)) (hss : slots + s2.2.2.1 ≤ R.slots + s.2.2.1) (hcc : cells ≤ R.cells ∧ slots ≤ R.slots) {len : Nat}  (hd : decode M.2.2.1 pc = .ok (.baload, len)) (hs : qStep M pc (.baload) len L st s = some (.inl (pc', L', st', s2))) (k : qK G M p l e R s0 m args below meth c H cells slots s Q pc' L' st' s2) : W p l e R s0 m args below meth c H locs cells slots Q (F0 m pc ls (st.map (qV G))) := by
  obtain ⟨hx, hb, hml, hnm, hown, hts, hret, hlk, hTB, hH0⟩ := hC
  dsimp only [qStep] at hs
  split at hs
  · rename_i hlen; subst hlen
    split at hs
    · rename_i i a rest
      split at hs
      · rename_i n f hq
        split at hs
        · cases hs
        · rename_i hin
          obtain ⟨rfl, rfl, rfl, rfl⟩ := qgo_eq hs
          show W p l e R s0 m args below meth c H locs cells slots Q (F0 m pc ls (.int i :: .ref (qad G a) :: List.map (qV G) rest))
          rcases qby_ok hq with ⟨he, ha⟩ | hb2
          · have ha := qrel_b hR he ha
            have hw' := qW_at (G := G) ha
            rw [he] at hw'
            rw [qRel_lt hR ha]
            exact va_bald hx hb hTB.1 hR.2.2.2.1 (qPm a) 1 hw' rfl hin hd (k ls H locs cells slots hL hR (Nat.le_refl _) hlc rfl rfl)
          · exact va_tb hx hb (qxb_T hTB hH0 hb2).2 (qRel_S hR hH0 hz hlc) hin rfl hd (k ls H locs cells slots hL hR (Nat.le_refl _) hlc rfl rfl)
      · cases hs
    · cases hs
  · cases hs

theorem qx_arraylength {pc pc' : Nat} {L L' : qLo} {st st' : List Value} {s s2 : qSt} {ls : Array Slot} (hC : qCx G M p s0 m args meth c) (hfr : 6 ≤ R.frames) (hlo : 200 ≤ R.locals) (hL : qLs G ls M.2.2.2.1 L) (hR : qRel G s H) (hz : s0.heap.size ≤ H.size) (hlc : ∀ z ∈ locs, G.1 ≤ z.base) (hcs : cells + (s2.1 + s2.2.1) ≤ R.cells + (s.1 + s.2.1)) (hss : slots + s2.2.2.1 ≤ R.slots + s.2.2.1) (hcc : cells ≤ R.cells ∧ slots ≤ R.slots) {len : Nat}  (hd : decode M.2.2.1 pc = .ok (.arraylength, len)) (hs : qStep M pc (.arraylength) len L st s = some (.inl (pc', L', st', s2))) (k : qK G M p l e R s0 m args below meth c H cells slots s Q pc' L' st' s2) : W p l e R s0 m args below meth c H locs cells slots Q (F0 m pc ls (st.map (qV G))) := by
  obtain ⟨hx, hb, hml, hnm, hown, hts, hret, hlk, hTB, hH0⟩ := hC
  dsimp only [qStep] at hs
  split at hs
  · rename_i hlen; subst hlen
    split at hs
    · rename_i a rest
      split at hs
      · rename_i n f hq
        obtain ⟨he, ha⟩ := qai_ok hq
        obtain ⟨rfl, rfl, rfl, rfl⟩ := qgo_eq hs
        show W p l e R s0 m args below meth c H locs cells slots Q (F0 m pc ls (.ref (qad G a) :: List.map (qV G) rest))
        rcases ha with ha | ha
        · have hw' := qW_at (G := G) ha
          rw [he] at hw'
          rw [qRel_lt hR ha]
          exact va_alen hx hb hTB.1 hR.2.2.2.1 (qPm a) 0 hw' rfl rfl hd (k ls H locs cells slots hL hR (Nat.le_refl _) hlc rfl rfl)
        · subst ha
          have hsc := hR.2.2.2.2.2
          rw [he] at hsc
          cases hsc
          obtain ⟨-, -, -, -, -, -, -, -, -, -, hX, hsz, -⟩ := hTB
          have hbl : G.2.1 1000 < G.2.2.2.2.2.1.size := by
            obtain ⟨scr, hscr, -⟩ := hX
            exact (Array.getElem?_eq_some_iff.mp hscr).1
          exact va_slen (H0 := G.2.2.2.2.2.1) (A := qA G) hx hb hX hbl (by show ¬ G.1 ≤ G.2.1 1000; rw [hsz]; omega) (qRel_S hR (fun _ _ => rfl) (by have := hR.2.2.1; omega) hlc) hd (k ls H locs cells slots hL hR (Nat.le_refl _) hlc rfl rfl)
      · split at hs
        · rename_i n f hq
          obtain ⟨he, ha⟩ := qai_ok hq
          obtain ⟨rfl, rfl, rfl, rfl⟩ := qgo_eq hs
          have ha : qPm a < s.1 := by
            rcases ha with ha | ha
            · exact ha
            · have := hR.2.2.2.2.2
              rw [← ha, he] at this
              cases this
          have hw' := qW_at (G := G) ha
          rw [he] at hw'
          show W p l e R s0 m args below meth c H locs cells slots Q (F0 m pc ls (.ref (qad G a) :: List.map (qV G) rest))
          rw [qRel_lt hR ha]
          exact va_alen hx hb hTB.1 hR.2.2.2.1 (qPm a) 2 hw' rfl rfl hd (k ls H locs cells slots hL hR (Nat.le_refl _) hlc rfl rfl)
        · split at hs
          · rename_i n f hq
            obtain ⟨rfl, rfl, rfl, rfl⟩ := qgo_eq hs
            show W p l e R s0 m args below meth c H locs cells slots Q (F0 m pc ls (.ref (qad G a) :: List.map (qV G) rest))
            rcases qby_ok hq with ⟨he, ha⟩ | hb2
            · have ha := qrel_b hR he ha
              have hw' := qW_at (G := G) ha
              rw [he] at hw'
              rw [qRel_lt hR ha]
              exact va_alen hx hb hTB.1 hR.2.2.2.1 (qPm a) 1 hw' rfl rfl hd (k ls H locs cells slots hL hR (Nat.le_refl _) hlc rfl rfl)
            · exact va_tlen hx hb (qxb_T hTB hH0 hb2).2 (qRel_S hR hH0 hz hlc) rfl hd (k ls H locs cells slots hL hR (Nat.le_refl _) hlc rfl rfl)
          · cases hs
    · cases hs
  · cases hs

theorem va_aldqA {cc : ByteArray} {pc : Nat} {ls : Array Slot} {rest : List Value} {D : va_G} {cl : List vw_C} {tys : List (ClassId × FieldType)} {ws : va_W} {a : Nat} (hexec : p.tables.exec = Jvm.exec) (hb : c.code = cc) (hK : va_K D cl tys s0) (hP : va_P D cl ws H) (q0 t0 : Nat) {cA : ClassId} {C : FieldType} {n : Nat} {f : Nat → Option Nat} (ha : ws[q0]? = some (a, .inl (cA, n, .inr (.inr (.inr (.inr f)))))) (ht : tys[t0]? = some (cA, .array C)) {i : Int32} (hin : vp_in i n) (hdg : decode cc pc = .ok (.aaload, 1))
    (kk : W p l e R s0 m args below meth c H locs cells slots Q (F0 m (pc + 1) ls (va_rf (f i.toNatClampNeg) :: rest))) : W p l e R s0 m args below meth c H locs cells slots Q (F0 m pc ls (.int i :: .ref a :: rest)) := by
  have hlt : i.toNatClampNeg < n := Nat.not_le.mp fun q => hin (Or.inr q)
  exact W.aald (v := va_rf (f i.toNatClampNeg)) (ty := .array C) hexec hb (hP q0 _ ha) ((hK.2 t0 _ ht).1 n (fun j => va_rf (f j))) rfl (fun q => by cases q) (by show ¬ (i < 0 ∨ (arrV _ _ _).slots.size ≤ _); rw [arrV_size]; exact hin) (by show (arrV _ _ _).slots[_]? = _; rw [arrV_read _ _ hlt]) rfl rfl hdg kk

theorem qx_aaload {pc pc' : Nat} {L L' : qLo} {st st' : List Value} {s s2 : qSt} {ls : Array Slot} (hC : qCx G M p s0 m args meth c) (hfr : 6 ≤ R.frames) (hlo : 200 ≤ R.locals) (hL : qLs G ls M.2.2.2.1 L) (hR : qRel G s H) (hz : s0.heap.size ≤ H.size) (hlc : ∀ z ∈ locs, G.1 ≤ z.base) (hcs : cells + (s2.1 + s2.2.1) ≤ R.cells + (s.1 + s.2.1)) (hss : slots + s2.2.2.1 ≤ R.slots + s.2.2.1) (hcc : cells ≤ R.cells ∧ slots ≤ R.slots) {len : Nat}  (hd : decode M.2.2.1 pc = .ok (.aaload, len)) (hs : qStep M pc (.aaload) len L st s = some (.inl (pc', L', st', s2))) (k : qK G M p l e R s0 m args below meth c H cells slots s Q pc' L' st' s2) : W p l e R s0 m args below meth c H locs cells slots Q (F0 m pc ls (st.map (qV G))) := by
  obtain ⟨hx, hb, hml, hnm, hown, hts, hret, hlk, hTB, hH0⟩ := hC
  dsimp only [qStep] at hs
  split at hs
  · rename_i hlen; subst hlen
    split at hs
    · rename_i i a rest
      split at hs
      · rename_i n f hq
        obtain ⟨he, ha⟩ := qaq_ok hq
        split at hs
        · cases hs
        · rename_i hin
          obtain ⟨rfl, rfl, rfl, rfl⟩ := qgo_eq hs
          have hw' := qW_at (G := G) ha
          rw [he] at hw'
          show W p l e R s0 m args below meth c H locs cells slots Q (F0 m pc ls (.int i :: .ref (qad G a) :: List.map (qV G) rest))
          rw [qRel_lt hR ha]
          refine va_aldq hx hb hTB.1 hR.2.2.2.1 (qPm a) 5 hw' rfl hin hd ?_
          have e5 : va_rf ((f i.toNatClampNeg).map (qad G)) = qV G (va_rf (f i.toNatClampNeg)) := by cases f i.toNatClampNeg <;> rfl
          rw [e5]
          exact (k ls H locs cells slots hL hR (Nat.le_refl _) hlc rfl rfl)
      · split at hs
        · rename_i n f hq
          obtain ⟨he, ha⟩ := qaq_ok hq
          split at hs
          · cases hs
          · rename_i hin
            obtain ⟨rfl, rfl, rfl, rfl⟩ := qgo_eq hs
            have hw' := qW_at (G := G) ha
            rw [he] at hw'
            show W p l e R s0 m args below meth c H locs cells slots Q (F0 m pc ls (.int i :: .ref (qad G a) :: List.map (qV G) rest))
            rw [qRel_lt hR ha]
            refine va_aldqA hx hb hTB.1 hR.2.2.2.1 (qPm a) 4 hw' rfl hin hd ?_
            have e5 : va_rf ((f i.toNatClampNeg).map (qad G)) = qV G (va_rf (f i.toNatClampNeg)) := by cases f i.toNatClampNeg <;> rfl
            rw [e5]
            exact (k ls H locs cells slots hL hR (Nat.le_refl _) hlc rfl rfl)
        · cases hs
    · cases hs
  · cases hs

theorem qx_bastore {pc pc' : Nat} {L L' : qLo} {st st' : List Value} {s s2 : qSt} {ls : Array Slot} (hC : qCx G M p s0 m args meth c) (hfr : 6 ≤ R.frames) (hlo : 200 ≤ R.locals) (hL : qLs G ls M.2.2.2.1 L) (hR : qRel G s H) (hz : s0.heap.size ≤ H.size) (hlc : ∀ z ∈ locs, G.1 ≤ z.base) (hcs : cells + (s2.1 + s2.2.1) ≤ R.cells + (s.1 + s.2.1)) (hss : slots + s2.2.2.1 ≤ R.slots + s.2.2.1) (hcc : cells ≤ R.cells ∧ slots ≤ R.slots) {len : Nat}  (hd : decode M.2.2.1 pc = .ok (.bastore, len)) (hs : qStep M pc (.bastore) len L st s = some (.inl (pc', L', st', s2))) (k : qK G M p l e R s0 m args below meth c H cells slots s Q pc' L' st' s2) : W p l e R s0 m args below meth c H locs cells slots Q (F0 m pc ls (st.map (qV G))) := by
  obtain ⟨hx, hb, hml, hnm, hown, hts, hret, hlk, hTB, hH0⟩ := hC
  dsimp only [qStep] at hs
  split at hs
  · rename_i hlen; subst hlen
    split at hs
    · rename_i x i a rest
      split at hs
      · rename_i n f hq
        obtain ⟨he, -⟩ := qai_ok hq
        split at hs
        · cases hs
        · rename_i hin0
          have hin : ¬ (i < 0 ∨ n ≤ i.toNatClampNeg) := fun z => hin0 (Or.inl z)
          have ha : qPm a < s.1 := Classical.byContradiction fun z => hin0 (Or.inr z)
          obtain ⟨rfl, rfl, rfl, rfl⟩ := qgo_eq hs
          have hw' := qW_at (G := G) ha
          rw [he] at hw'
          show W p l e R s0 m args below meth c H locs cells slots Q (F0 m pc ls (.int x :: .int i :: .ref (qad G a) :: List.map (qV G) rest))
          rw [qRel_lt hR ha]
          refine W.bast hx hb (hR.2.2.2.1 (qPm a) _ hw') ((hTB.1.2 1 _ rfl).1 n (fun j => .int (f j))) (fun q => by cases q) (by show ¬ (i < 0 ∨ (arrV _ _ _).slots.size ≤ _); rw [arrV_size]; exact hin) rfl rfl hd fun H1 e1 z oq => ?_
          refine k ls H1 _ cells slots hL (qRel_put hR ha ?_ z oq) (by rw [z]; exact Nat.le_refl _) (qlocs hlc) rfl rfl
          show H1[G.1 + qPm a]? = some (vp_cell _ _)
          rw [e1]
          show some (Cell.setSlot (vp_cell _ (n, .inl f)) _ _) = some (vp_cell _ (n, .inl (upd f i.toNatClampNeg (vp_nar .byte x))))
          rw [vp_cell_i, vp_cell_i, arrV_store]
          congr 2
          funext q
          by_cases hq : q = i.toNatClampNeg
          · subst hq
            simp [updV, upd, vp_updL, vp_nar]
            try rfl
          · simp [updV, upd, vp_updL, hq]
      · cases hs
    · cases hs
  · cases hs

theorem qx_ldc {pc pc' : Nat} {L L' : qLo} {st st' : List Value} {s s2 : qSt} {ls : Array Slot} (hC : qCx G M p s0 m args meth c) (hfr : 6 ≤ R.frames) (hlo : 200 ≤ R.locals) (hL : qLs G ls M.2.2.2.1 L) (hR : qRel G s H) (hz : s0.heap.size ≤ H.size) (hlc : ∀ z ∈ locs, G.1 ≤ z.base) (hcs : cells + (s2.1 + s2.2.1) ≤ R.cells + (s.1 + s.2.1)) (hss : slots + s2.2.2.1 ≤ R.slots + s.2.2.1) (hcc : cells ≤ R.cells ∧ slots ≤ R.slots) {len : Nat} {i : Nat} (hd : decode M.2.2.1 pc = .ok (.ldc i, len)) (hs : qStep M pc (.ldc i) len L st s = some (.inl (pc', L', st', s2))) (k : qK G M p l e R s0 m args below meth c H cells slots s Q pc' L' st' s2) : W p l e R s0 m args below meth c H locs cells slots Q (F0 m pc ls (st.map (qV G))) := by
  obtain ⟨hx, hb, hml, hnm, hown, hts, hret, hlk, hTB, hH0⟩ := hC
  dsimp only [qStep] at hs
  split at hs
  · rename_i hlen; subst hlen
    split at hs
    · rename_i j hj
      obtain ⟨rfl, rfl, rfl, rfl⟩ := qgo_eq hs
      have h7 := hTB.2.2.2.2.2.2.1 _ (qTs_ok hj)
      refine va_ldcS hx hb hown h7 hd ?_
      have hk := (k ls H locs cells slots hL hR (Nat.le_refl _) hlc rfl rfl)
      have e1 : qV G (.ref (1000000 + j)) = .ref (G.2.1 j) := by
        show Value.ref (qad G (1000000 + j)) = _
        rw [qad_str (by omega), Nat.add_sub_cancel_left]
      rw [List.map_cons, e1] at hk
      exact hk
    · split at hs
      · rename_i v hv
        obtain ⟨rfl, rfl, rfl, rfl⟩ := qgo_eq hs
        exact lv_ldc hx hb hown (hts _ (qTo_ok hv)) hd (k ls H locs cells slots hL hR (Nat.le_refl _) hlc rfl rfl)
      · cases hs
  · cases hs

def qrows : Nat → qSt → qSt
  | 0, s => s
  | j + 1, s => qrow (qrows j s)
theorem qrows_n (s : qSt) : ∀ j, (qrows j s).1 = s.1 + j ∧ (qrows j s).2.1 = s.2.1 ∧ (qrows j s).2.2.1 = s.2.2.1 + 6 * j
  | 0 => ⟨rfl, rfl, rfl⟩
  | j + 1 => by
    obtain ⟨a, b, c⟩ := qrows_n s j
    refine ⟨?_, b, ?_⟩
    · show (qrows j s).1 + 1 = _
      omega
    · show (qrows j s).2.2.1 + 6 = _
      omega
theorem qrows_at (s : qSt) (k : Nat) : ∀ j, (qrows j s).2.2.2 (qPi k) = if s.1 ≤ k ∧ k < s.1 + j then .inr (0, 6, .inl (fun _ => 0)) else s.2.2.2 (qPi k)
  | 0 => by
    rw [if_neg (by omega)]
    rfl
  | j + 1 => by
    have ih := qrows_at s k j
    have hn := (qrows_n s j).1
    show qup (qrows j s).2.2.2 (qPi (qrows j s).1) _ (qPi k) = _
    unfold qup
    by_cases h : k = (qrows j s).1
    · rw [if_pos (by rw [h]), if_pos (by omega)]
    · rw [if_neg (fun z => h (qPi_inj z)), ih]
      by_cases h2 : s.1 ≤ k ∧ k < s.1 + j
      · rw [if_pos h2, if_pos (by omega)]
      · rw [if_neg h2, if_neg (by omega)]
theorem qPi_sm {k : Nat} (hk : k < 1000000) : qPi k < 1000000 := by
  unfold qPi
  split <;> (try split) <;> omega
/-- seven cells made at once -/
theorem qRel_man {s : qSt} {H1 : Heap} (h : qRel G s H) (h0 : s.2.1 = 0) (hs : s.1 + 7 ≤ 1000) (hz : H1.size = H.size + 7) (ho : H1[H.size]? = some (vp_cell (G.2.2.2.2.1 4) (6, .inr (.inr (.inr (.inr (fun i => if i < 6 then some (H.size + 1 + i) else none)))))))
    (hr : ∀ j, j < 6 → H1[H.size + 1 + j]? = some (vp_cell (G.2.2.2.2.1 0) (6, .inl (fun _ => 0)))) (oq : ∀ q : Nat, q < H.size → H1[q]? = H[q]?) : qRel G (qman s) H1 := by
  obtain ⟨h1, h2, h3, h4, h5, h6⟩ := h
  have hsz := h2 h0
  have key : ∀ k : Nat, k < s.1 + 7 → va_at G.2.2.2.1 qKs (G.1 + k, qE G ((qman s).2.2.2 (qPi k))) H1 := by
    intro k hk
    show va_at G.2.2.2.1 qKs (G.1 + k, qE G ((qrows 6 (qnew s (.inr (4, 6, .inr (.inr (.inr (.inr (fun i => if i < 6 then some (qPi (s.1 + 1 + i)) else none)))))) 6)).2.2.2 (qPi k))) H1
    rw [qrows_at]
    by_cases hlt : s.1 + 1 ≤ k
    · rw [if_pos ⟨hlt, by show k < s.1 + 1 + 6; omega⟩]
      show H1[G.1 + k]? = some (vp_cell _ _)
      have := hr (k - (s.1 + 1)) (by omega)
      rw [show H.size + 1 + (k - (s.1 + 1)) = G.1 + k by omega] at this
      exact this
    · rw [if_neg (fun z => hlt z.1)]
      show va_at _ _ (_, qE G (qup s.2.2.2 (qPi s.1) _ (qPi k))) H1
      unfold qup
      by_cases hk0 : k = s.1
      · subst hk0
        rw [if_pos rfl]
        show H1[G.1 + s.1]? = some (vp_cell _ (6, .inr (.inr (.inr (.inr _)))))
        rw [← hsz, ho]
        congr 7
        funext i
        by_cases hi : i < 6
        · rw [if_pos hi]
          show _ = Option.map (qad G) (if i < 6 then some (qPi (s.1 + 1 + i)) else none)
          rw [if_pos hi]
          show _ = some (qad G (qPi (s.1 + 1 + i)))
          rw [qad_lt G (qPi_sm (by omega)), qPm_Pi, hsz]
          congr 1
          omega
        · rw [if_neg hi]
          show _ = Option.map (qad G) (if i < 6 then some (qPi (s.1 + 1 + i)) else none)
          rw [if_neg hi]
          rfl
      · rw [if_neg (fun z => hk0 (qPi_inj z))]
        exact (h4 k _ (qW_pi (by omega))).kept (oq _ (by show G.1 + k < _; omega))
  refine ⟨hs, fun _ => by rw [hz, hsz]; show _ = G.1 + (s.1 + 7); omega, by rw [hz, hsz]; show G.1 + (s.1 + 7) ≤ _; omega, fun k q hk => ?_, fun q hq => by rw [oq q (by omega)]; exact h5 q hq, ?_⟩
  · obtain ⟨hks, rfl⟩ := qW_lt hk
    exact key k hks
  · have hne : ∀ k : Nat, k < 1000 → ¬ (1001000 : Nat) = qPi k := fun k hk hh => by have := qPi_sm (k := k) (by omega); omega
    have hr2 : ∀ t : qSt, t.1 < 1000 → (qrow t).2.2.2 1001000 = t.2.2.2 1001000 := fun t ht => by
      show qup t.2.2.2 (qPi t.1) _ 1001000 = _
      unfold qup
      rw [if_neg (hne _ ht)]
    show (qman s).2.2.2 1001000 = _
    unfold qman
    rw [hr2 _ (by show s.1 + 1 + 1 + 1 + 1 + 1 + 1 < 1000; omega), hr2 _ (by show s.1 + 1 + 1 + 1 + 1 + 1 < 1000; omega), hr2 _ (by show s.1 + 1 + 1 + 1 + 1 < 1000; omega), hr2 _ (by show s.1 + 1 + 1 + 1 < 1000; omega), hr2 _ (by show s.1 + 1 + 1 < 1000; omega), hr2 _ (by show s.1 + 1 < 1000; omega)]
    show qup s.2.2.2 (qPi s.1) _ 1001000 = _
    unfold qup
    rw [if_neg (hne _ (by omega))]
    exact h6
/-- six rows of six numbers: the machine's own row, with the places of the cells -/
theorem qmna {cc : ByteArray} {pc : Nat} {ls : Array Slot} {rest : List Value} {own : String} {index : Nat} {cy cO : ClassId} (hexec : p.tables.exec = Jvm.exec) (hb : c.code = cc) (hown : s0.vm.findClass own = some m.cls) (hclink : (Cond.classLink own index ("[" ++ (FieldType.array .int).toString)).before args s0 = true) (hover : va_AOA .int s0) (harr : (Cond.arrayClass .int).before args s0 = true)
    (hcy : s0.vm.findClass (FieldType.array .int).toString = some cy) (hcO : s0.vm.findClass ("[" ++ (FieldType.array .int).toString) = some cO) (hcells : cells + 7 ≤ R.cells) (hslots : slots + 42 ≤ R.slots) (hdg : decode cc pc = .ok (.multianewarray index 2, 4))
    (kk : ∀ H1 : Heap, H1.size = H.size + 7 → H1[H.size]? = some (vp_cell cO (6, .inr (.inr (.inr (.inr (fun i => if i < 6 then some (H.size + 1 + i) else none)))))) → (∀ j, j < 6 → H1[H.size + 1 + j]? = some (vp_cell cy (6, .inl (fun _ => 0)))) → (∀ q : Nat, q < H.size → H1[q]? = H[q]?) →
      W p l e R s0 m args below meth c H1 locs (cells + 7) (slots + 42) Q (F0 m (pc + 4) ls (.ref H.size :: rest))) : W p l e R s0 m args below meth c H locs cells slots Q (F0 m pc ls (.int 6 :: .int 6 :: rest)) := by
  intro T hT Xs
  obtain ⟨vm₁, cA, comp, -, fA, fC, hO, -, X', step⟩ := Xs.multianewarray2F hexec hown hclink (va_AOA.use hover) harr (g := F0 m pc ls (.int 6 :: .int 6 :: rest)) rfl (by rw [hb]; exact hdg) rfl (by decide) (by decide) (by decide) (by decide) (by decide) (by rfl) (by rfl) (by show cells + (1 + 6) ≤ _; omega) (by show slots + (6 + 6 * 6) ≤ _; omega)
  have ec : some cy = some comp := hcy.symm.trans fC
  cases ec
  have eO : some cO = some cA := hcO.symm.trans fA
  cases eO
  have hn6 : (6 : Int32).toNatClampNeg = 6 := by decide
  rw [hn6] at X' step
  have hTh : (T.setVm vm₁).heap = H := hT
  obtain ⟨f1, f2, -, -⟩ := Jvm.Free.Multi.fill_facts (T.setVm vm₁) cO cy 6 6 (defaultValue .int) 6
  rw [hTh] at f1 f2
  have hold : ∀ x : Nat, x < H.size → (Jvm.Free.Multi.fill (T.setVm vm₁) cO cy 6 6 (defaultValue .int) 6).heap[x]? = H[x]? := fun x hx => by
    have := Jvm.Free.Multi.fill_old (T.setVm vm₁) cO cy 6 6 (defaultValue .int) (a := x) (by rw [hTh]; exact hx) 6
    rw [hTh] at this
    exact this
  have hrow : ∀ j : Nat, j < 6 → (Jvm.Free.Multi.fill (T.setVm vm₁) cO cy 6 6 (defaultValue .int) 6).heap[H.size + 1 + j]? = some (vp_cell cy (6, .inl (fun _ => 0))) := fun j hj => by
    have := Jvm.Free.Multi.fill_inner (T.setVm vm₁) cO cy 6 6 (defaultValue .int) 6 j hj
    rw [hTh] at this
    rw [this]
    congr 1
  have hout : Jvm.Free.Multi.outerC cO 6 H.size 6 = vp_cell cO (6, .inr (.inr (.inr (.inr (fun i => if i < 6 then some (H.size + 1 + i) else none))))) := by
    rw [vp_cell_q]
    exact vr_outer cO 6 H.size 6
  rw [hout] at f2
  obtain ⟨t, a1, b1⟩ := kk _ f1 f2 hrow hold (Jvm.Free.Multi.fill (T.setVm vm₁) cO cy 6 6 (defaultValue .int) 6) rfl X'
  refine ⟨t, step t ?_, b1⟩
  have e : T.heap.size = H.size := by rw [hT]
  rw [e]
  exact a1

theorem qx_multianewarray {pc pc' : Nat} {L L' : qLo} {st st' : List Value} {s s2 : qSt} {ls : Array Slot} (hC : qCx G M p s0 m args meth c) (hfr : 6 ≤ R.frames) (hlo : 200 ≤ R.locals) (hL : qLs G ls M.2.2.2.1 L) (hR : qRel G s H) (hz : s0.heap.size ≤ H.size) (hlc : ∀ z ∈ locs, G.1 ≤ z.base) (hcs : cells + (s2.1 + s2.2.1) ≤ R.cells + (s.1 + s.2.1)) (hss : slots + s2.2.2.1 ≤ R.slots + s.2.2.1) (hcc : cells ≤ R.cells ∧ slots ≤ R.slots) {len : Nat} {i d : Nat} (hd : decode M.2.2.1 pc = .ok (.multianewarray i d, len)) (hs : qStep M pc (.multianewarray i d) len L st s = some (.inl (pc', L', st', s2))) (k : qK G M p l e R s0 m args below meth c H cells slots s Q pc' L' st' s2) : W p l e R s0 m args below meth c H locs cells slots Q (F0 m pc ls (st.map (qV G))) := by
  obtain ⟨hx, hb, hml, hnm, hown, hts, hret, hlk, hTB, hH0⟩ := hC
  dsimp only [qStep] at hs
  split at hs
  · rename_i h0
    obtain ⟨rfl, hM, rfl, rfl⟩ := h0
    split at hs
    · rename_i y x rest
      split at hs
      · rename_i h0
        obtain ⟨rfl, rfl, h0, h1000⟩ := h0
        obtain ⟨rfl, rfl, rfl, rfl⟩ := qgo_eq hs
        have hq1 : (qman s).1 = s.1 + 7 ∧ (qman s).2.1 = s.2.1 ∧ (qman s).2.2.1 = s.2.2.1 + 42 := ⟨rfl, rfl, rfl⟩
        have hsz := hR.2.1 h0
        have hcl : (Cond.classLink (qNm M.1) 13 ("[" ++ (FieldType.array .int).toString)).before args s0 = true := by
          rw [hM, show qNm 10 = RL from rfl]
          exact hts _ (qta_w _ (by simp [FieldType.toString]))
        refine qmna hx hb hown hcl hTB.aoa.1 (hts _ (qarr_w _ (by simp))) ((hTB.1.2 0 _ rfl).2) ((hTB.1.2 4 _ rfl).2) (by omega) (by omega) hd (fun H1 z1 o1 r1 q1 => ?_)
        have hk := k ls H1 locs (cells + 7) (slots + 42) hL (qRel_man hR h0 h1000 z1 o1 r1 q1) (by rw [z1]; omega) hlc (by rw [hq1.1, hq1.2.1]; omega) (by rw [hq1.2.2]; omega)
        rw [show (.ref H.size : Value) = qV G (.ref (qPi s.1)) by rw [hsz]; show _ = Value.ref (qad G (qPi s.1)); rw [qad_lt G (qPi_sm (by omega)), qPm_Pi]]
        exact hk
      · cases hs
    · cases hs
  · cases hs

theorem qn_int {z : Int32} (hz : ¬ z < 0) : z.toInt = (z.toNatClampNeg : Int) := by
  have h1 : (0 : Int) ≤ z.toInt := by
    have := Int32.not_lt.mp hz
    simpa using Int32.le_iff_toInt_le.mp this
  show z.toInt = ((z.toInt.toNat : Nat) : Int)
  omega
/-- System.arraycopy from bytes of one cell to those of another -/
theorem qcpy {cc : ByteArray} {pc : Nat} {ls : Array Slot} {rest : List Value} {own : String} {index a0 a n0 n1 : Nat} {cb : ClassId} {f g : Nat → Int32} {src : Cell} (hexec : p.tables.exec = Jvm.exec) (hb : c.code = cc) (hml : c.maxLocals = ls.size) (hown : s0.vm.findClass own = some m.cls) (hlink : (Cond.methodLink own index arraycopyName).before args s0 = true)
    (hnat : (Cond.native arraycopyName).before args s0 = true) (hstat : (Cond.static arraycopyName).before args s0 = true) (hini : (Cond.initialized "java/lang/System").before args s0 = true) (harr : s0.isArrayOf (vp_cell cb (n1, .inl g)) .byte) (hsa : s0.isArrayOf src .byte) (hsu : src.vm ≠ .unknown) (hc0 : H[a0]? = some src) (hc1 : H[a]? = some (vp_cell cb (n1, .inl g)))
    (hn0 : n0 ≤ src.slots.size) (hsl : ∀ j, j < n0 → src.slots[j]? = some (.int (f j)))
    {sp dp n : Int32} (h1 : ¬ sp < 0) (h2 : ¬ dp < 0) (h3 : ¬ n < 0) (h4 : sp.toNatClampNeg + n.toNatClampNeg ≤ n0) (h5 : dp.toNatClampNeg + n.toNatClampNeg ≤ n1) (hfit : ∀ i, i < n.toNatClampNeg → fits .byte (.int (f (sp.toNatClampNeg + i))) = true)
    (hframes : 1 ≤ R.frames) (hlocals : (rest.map fun v => v.category).sum + (nativeFrameWords "java/lang/System" "arraycopy" 5 + 11) ≤ R.locals) (hdg : decode cc pc = .ok (.invokestatic index, 3))
    (kk : ∀ (H1 : Heap) (locs1 : List Loc), H1[a]? = some (vp_cell cb (n1, .inl (va_cpy f g sp.toNatClampNeg dp.toNatClampNeg n.toNatClampNeg))) → H1.size = H.size → (∀ q : Nat, q ≠ a → H1[q]? = H[q]?) → (∀ z ∈ locs1, z ∈ locs ∨ z.base = a) → W p l e R s0 m args below meth c H1 locs1 cells slots Q (F0 m (pc + 3) ls rest)) :
    W p l e R s0 m args below meth c H locs cells slots Q (F0 m pc ls (.int n :: .int dp :: .ref a :: .int sp :: .ref a0 :: rest)) := by
  intro T hT X
  obtain ⟨hso, k0, hk0, cm0, hkk0⟩ := hsa
  obtain ⟨-, k1, hk1, cm1, hkk1⟩ := harr
  obtain ⟨vm', X', step⟩ := X.arraycopy hexec hown hlink hnat hstat hini (src := a0) (dst := a) (cs := src) (cd := vp_cell cb (n1, .inl g)) (srcPos := sp) (destPos := dp) (n := n) (by rw [hT]; exact hc0) (by rw [hT]; exact hc1)
    hso (fun _ h => by cases h) hsu (fun h => by cases h) hk0 hk1 hkk0 hkk1 (by simp [refKind]) h1 h2 h3
    (by rw [qn_int h1, qn_int h3]; omega)
    (by rw [qn_int h2, qn_int h3]; show ¬ _ > ((arrV cb n1 (fun j => .int (g j))).slots.size : Int); rw [arrV_size]; omega)
    (fun vm₁ _ i hi => by
      have e : src.slots.getD (sp.toNatClampNeg + i) .null = .int (f (sp.toNatClampNeg + i)) := by
        rw [Array.getD_eq_getD_getElem?, hsl _ (by omega)]
        rfl
      refine ⟨?_, ?_⟩
      · rw [e]
        exact hfit i hi
      · rw [e]
        exact trivial)
    (g := F0 m pc ls (.int n :: .int dp :: .ref a :: .int sp :: .ref a0 :: rest)) rfl (by rw [hml]) (rest := rest) rfl (by rw [hb]; exact hdg) hframes (by show 2 * 0 + _ + _ ≤ _; omega)
  have e1 : copied src (vp_cell cb (n1, .inl g)) sp dp n = vp_cell cb (n1, .inl (va_cpy f g sp.toNatClampNeg dp.toNatClampNeg n.toNatClampNeg)) := va_copiedX (fun z => .int z) src cb f g hsl h4
  rw [e1] at X' step
  have hl : a < H.size := (Array.getElem?_eq_some_iff.mp hc1).1
  have hheap : ((T.setVm vm').setCell a (vp_cell cb (n1, .inl (va_cpy f g sp.toNatClampNeg dp.toNatClampNeg n.toNatClampNeg)))).heap = H.setIfInBounds a (vp_cell cb (n1, .inl (va_cpy f g sp.toNatClampNeg dp.toNatClampNeg n.toNatClampNeg))) := by rw [← hT]; rfl
  obtain ⟨t, a1, b1⟩ := kk _ _ (show (H.setIfInBounds a _)[a]? = some _ by simp [Array.getElem?_setIfInBounds, hl]) (by simp) (fun q hq => by simp [Array.getElem?_setIfInBounds, Ne.symm hq]) (fun z hz => by
    rcases List.mem_append.mp hz with h | h
    · exact Or.inl h
    · obtain ⟨y, -, hy⟩ := List.mem_map.mp h
      rw [← hy]
      exact Or.inr rfl) _ hheap X'
  exact ⟨t, step t a1, b1⟩
/-- clone of a row of bytes -/
theorem qcln {cc : ByteArray} {pc : Nat} {ls : Array Slot} {rest : List Value} {own : String} {index a n : Nat} {cb : ClassId} {f : Nat → Int32} (hexec : p.tables.exec = Jvm.exec) (hb : c.code = cc) (hml : c.maxLocals = ls.size) (hown : s0.vm.findClass own = some m.cls)
    (hlink : (Cond.methodLink own index ⟨"[B", "clone", "()Ljava/lang/Object;"⟩).before args s0 = true) (hsame : (Cond.sameMethod "[B" "java/lang/Object" "clone" "()Ljava/lang/Object;").before args s0 = true) (hnat : (Cond.native ⟨"java/lang/Object", "clone", "()Ljava/lang/Object;"⟩).before args s0 = true) (hinst : (Cond.instanceMethod ⟨"java/lang/Object", "clone", "()Ljava/lang/Object;"⟩).before args s0 = true)
    (hsel : (Cond.selects "[B" ⟨"[B", "clone", "()Ljava/lang/Object;"⟩ ⟨"java/lang/Object", "clone", "()Ljava/lang/Object;"⟩).before args s0 = true) (hcl : va_Nw (.castable "[B" "java/lang/Cloneable") s0) (harr : s0.isArrayOf (vp_cell cb (n, .inl f)) .byte) (hc0 : H[a]? = some (vp_cell cb (n, .inl f))) (hnm : s0.vm.findClass "[B" = some cb)
    (hfit : ∀ i, i < n → fits .byte (.int (f i)) = true) (hframes : 1 ≤ R.frames) (hlocals : (rest.map fun v => v.category).sum + 14 ≤ R.locals) (hcells : cells + 1 ≤ R.cells) (hslots : slots + n ≤ R.slots) (hdg : decode cc pc = .ok (.invokevirtual index, 3))
    (kk : ∀ H1 : Heap, H1[H.size]? = some (vp_cell cb (n, .inl f)) → H1.size = H.size + 1 → (∀ q : Nat, q < H.size → H1[q]? = H[q]?) → W p l e R s0 m args below meth c H1 locs (cells + 1) (slots + n) Q (F0 m (pc + 3) ls (.ref H.size :: rest))) : W p l e R s0 m args below meth c H locs cells slots Q (F0 m pc ls (.ref a :: rest)) := by
  obtain ⟨c0, t0', f1, f2, f3⟩ := Cond.castable_spec (va_Nw.use (A := args) rfl hcl)
  cases hnm.symm.trans f1
  intro T hT X
  have hsz : (vp_cell cb (n, .inl f)).slots.size = n := arrV_size _ _ _
  have hcellT : T.heap[a]? = some (vp_cell cb (n, .inl f)) := by rw [hT]; exact hc0
  obtain ⟨-, kA, hkA, comp, hkind⟩ := State.isArrayOf_alike X.warmed.alike harr
  obtain ⟨-, kS, hkS, compS, hkindS⟩ := harr
  obtain ⟨vm', X', st⟩ := X.cloneArray hexec hown hlink hsame hnat hinst hsel (a := a) (cell := vp_cell cb (n, .inl f)) hcellT (fun k h => by cases h) (fun h => by cases h) hnm f2 f3
    (fun i v hv => by
      have hi : i < n := by
        have := (Array.getElem?_eq_some_iff.mp hv).1
        rw [hsz] at this
        exact this
      have e : v = .int (f i) := by
        have h9 : (arrV cb n (fun j => .int (f j))).slots[i]? = some v := hv
        rw [arrV_read _ _ hi] at h9
        exact (Option.some.inj h9).symm
      have hk' : T.vm.classes[cb]? = some kA := hkA
      have := hfit i hi
      rw [← e] at this
      show State.fitsSlot _ cb _ i v = true
      simpa [State.fitsSlot, State.slotType?, hk', hkind] using this)
    (g := F0 m pc ls (.ref a :: rest)) rfl (by rw [hml]) rfl (by rw [hb]; exact hdg) hframes (by show 2 * 0 + _ + 14 ≤ _; omega) hcells (by rw [hsz]; exact hslots) (hloader := Vm.clonesLoader_of_array hkS hkindS)
  have hcellE : ({ cls := (vp_cell cb (n, .inl f)).cls, slots := (vp_cell cb (n, .inl f)).slots } : Cell) = vp_cell cb (n, .inl f) := rfl
  rw [hcellE, hsz] at X'
  generalize hH1 : H.push (vp_cell cb (n, .inl f)) = H1
  have z1 : H1.size = H.size + 1 := by rw [← hH1, Array.size_push]
  have e1 : H1[H.size]? = some (vp_cell cb (n, .inl f)) := by rw [← hH1, Array.getElem?_push_size]
  have o1 : ∀ q : Nat, q < H.size → H1[q]? = H[q]? := fun q hq => by rw [← hH1, Array.getElem?_push, if_neg (Nat.ne_of_lt hq)]
  obtain ⟨t, b1, b2⟩ := kk H1 e1 z1 o1 ((T.setVm vm').pushCell (vp_cell cb (n, .inl f))) (by rw [← hH1, ← hT]; rfl) X'
  refine ⟨t, st t ?_, b2⟩
  rw [hcellE, hT]
  exact b1

end QS4
