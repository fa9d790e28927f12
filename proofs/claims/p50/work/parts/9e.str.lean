/-! the locals at the start -/
theorem lv_args_mem : ∀ (vs : List Value) (i j : Nat) (v : Value), (∀ w ∈ vs, w.category = 1) → vs[j]? = some v → (i + j, v) ∈ lv_args i vs
  | [], i, j, v, _, h => by simp at h
  | w :: vs, i, 0, v, _, h => by
    cases h
    exact List.mem_cons_self
  | w :: vs, i, j + 1, v, hc, h => by
    have h1 := lv_args_mem vs (i + 1) j v (fun x hx => hc x (List.mem_cons_of_mem _ hx)) (by rwa [List.getElem?_cons_succ] at h)
    unfold lv_args
    rw [if_neg (by rw [hc w List.mem_cons_self]; decide)]
    refine List.mem_cons_of_mem _ ?_
    rw [show i + (j + 1) = i + 1 + j by omega]
    exact h1
theorem lg_sl_len : ∀ (vs : List Value), (∀ w ∈ vs, w.category = 1) → (lg_sl vs).length = vs.length := by
  intro vs
  induction vs with
  | nil => intro _; rfl
  | cons w vs ih =>
    intro hc
    have h1 := ih (fun x hx => hc x (List.mem_cons_of_mem _ hx))
    unfold lg_sl at h1 ⊢
    rw [List.flatMap_cons, List.length_append, h1, if_neg (by rw [hc w List.mem_cons_self]; decide)]
    simp [Nat.add_comm]
theorem qLs_entry {G : qG} {as : List Value} {n : Nat} (hc : as.all (fun v => v.category == 1) = true) (hn : as.length ≤ n) : (lg_sl (as.map (qV G))).length ≤ n ∧ qLs G ((lg_sl (as.map (qV G)) ++ List.replicate (n - (lg_sl (as.map (qV G))).length) Slot.unset).toArray) n (qen n as) := by
  have hc1 : ∀ w ∈ as.map (qV G), w.category = 1 := by
    intro w hw
    obtain ⟨v, hv, rfl⟩ := List.mem_map.mp hw
    rw [qV_cat]
    simpa using List.all_eq_true.mp hc v hv
  have hlen := lg_sl_len _ hc1
  rw [List.length_map] at hlen
  have h1 : (lg_sl (as.map (qV G))).length ≤ n := by rw [hlen]; exact hn
  refine ⟨h1, ?_, ?_⟩
  · unfold qen
    rw [List.length_append, List.length_map, List.length_replicate]
    omega
  · have h2 := lv_entry (as.map (qV G)) h1
    refine ⟨h2.1, h2.2.1, fun q hq => ?_⟩
    obtain ⟨v, hv, hq2⟩ := mem_qpairs.mp hq
    have hv := qld_eq.mp hv
    unfold qen at hv
    rw [List.getElem?_append] at hv
    split at hv
    · rename_i hlt
      rw [List.getElem?_map] at hv
      cases hx : as[q.1]? with
      | none => rw [hx] at hv; cases hv
      | some w =>
        rw [hx] at hv
        have hw : w = v := Option.some.inj (Option.some.inj hv)
        subst hw
        refine h2.2.2 q ?_
        have := lv_args_mem (as.map (qV G)) 0 q.1 (qV G w) hc1 (by rw [List.getElem?_map, hx]; rfl)
        rw [Nat.zero_add, ← hq2] at this
        exact this
    · rw [List.getElem?_replicate] at hv
      split at hv <;> cases hv
theorem wj_0 : Cond.code yJ0_length_8abf5 cJ0_length_8abf5 1 (some .int) ∈ wsL_law := gw_all (ws := [Cond.code yJ0_length_8abf5 cJ0_length_8abf5 1 (some .int)]) [(10, 15)] (by decide +kernel) _ List.mem_cons_self
theorem wj_1 : Cond.code yJ0_coder_7d493 cJ0_coder_7d493 1 (some .byte) ∈ wsL_law := gw_all (ws := [Cond.code yJ0_coder_7d493 cJ0_coder_7d493 1 (some .byte)]) [(10, 20)] (by decide +kernel) _ List.mem_cons_self
theorem wj_2 : Cond.code yJ0_charAt_5068e cJ0_charAt_5068e 2 (some .char) ∈ wsL_law := gw_all (ws := [Cond.code yJ0_charAt_5068e cJ0_charAt_5068e 2 (some .char)]) [(16, 4)] (by decide +kernel) _ List.mem_cons_self
theorem wj_3 : Cond.code yJ0_isLatin1_aae02 cJ0_isLatin1_aae02 1 (some .boolean) ∈ wsL_law := gw_all (ws := [Cond.code yJ0_isLatin1_aae02 cJ0_isLatin1_aae02 1 (some .boolean)]) [(16, 8)] (by decide +kernel) _ List.mem_cons_self
theorem wj_4 : Cond.code yJ1_charAt_3b067 cJ1_charAt_3b067 2 (some .char) ∈ wsL_law := gw_all (ws := [Cond.code yJ1_charAt_3b067 cJ1_charAt_3b067 2 (some .char)]) [(16, 11)] (by decide +kernel) _ List.mem_cons_self
theorem wj_5 : Cond.code yJ0_checkIndex_df160 cJ0_checkIndex_df160 2 none ∈ wsL_law := gw_all (ws := [Cond.code yJ0_checkIndex_df160 cJ0_checkIndex_df160 2 none]) [(16, 14)] (by decide +kernel) _ List.mem_cons_self
theorem wj_6 : Cond.code yJ3_checkIndex_8e157 cJ3_checkIndex_8e157 3 (some .int) ∈ wsL_law := gw_all (ws := [Cond.code yJ3_checkIndex_8e157 cJ3_checkIndex_8e157 3 (some .int)]) [(16, 17)] (by decide +kernel) _ List.mem_cons_self
theorem wj_7 : Cond.fieldLink RJ0 9 "java/lang/String" "value" "[B" ∈ wsL_law := gw_all (ws := [Cond.fieldLink RJ0 9 "java/lang/String" "value" "[B"]) [(10, 16)] (by decide +kernel) _ List.mem_cons_self
theorem wj_8 : Cond.fieldLink RJ0 38 "java/lang/String" "COMPACT_STRINGS" "Z" ∈ wsL_law := gw_all (ws := [Cond.fieldLink RJ0 38 "java/lang/String" "COMPACT_STRINGS" "Z"]) [(10, 21)] (by decide +kernel) _ List.mem_cons_self
theorem wj_9 : Cond.fieldLink RJ0 15 "java/lang/String" "coder" "B" ∈ wsL_law := gw_all (ws := [Cond.fieldLink RJ0 15 "java/lang/String" "coder" "B"]) [(10, 22)] (by decide +kernel) _ List.mem_cons_self
theorem wj_10 : Cond.fieldLink RJ0 1053 "jdk/internal/util/Preconditions" "SIOOBE_FORMATTER" "Ljava/util/function/BiFunction;" ∈ wsL_law := gw_all (ws := [Cond.fieldLink RJ0 1053 "jdk/internal/util/Preconditions" "SIOOBE_FORMATTER" "Ljava/util/function/BiFunction;"]) [(10, 2)] (by decide +kernel) _ List.mem_cons_self
theorem wj_11 : Cond.methodLink RJ0 335 yJ0_coder_7d493 ∈ wsL_law := gw_all (ws := [Cond.methodLink RJ0 335 yJ0_coder_7d493]) [(10, 17)] (by decide +kernel) _ List.mem_cons_self
theorem wj_12 : Cond.methodLink RJ0 492 yJ0_isLatin1_aae02 ∈ wsL_law := gw_all (ws := [Cond.methodLink RJ0 492 yJ0_isLatin1_aae02]) [(16, 5)] (by decide +kernel) _ List.mem_cons_self
theorem wj_13 : Cond.methodLink RJ0 495 yJ1_charAt_3b067 ∈ wsL_law := gw_all (ws := [Cond.methodLink RJ0 495 yJ1_charAt_3b067]) [(16, 9)] (by decide +kernel) _ List.mem_cons_self
theorem wj_14 : Cond.methodLink RJ1 9 yJ0_checkIndex_df160 ∈ wsL_law := gw_all (ws := [Cond.methodLink RJ1 9 yJ0_checkIndex_df160]) [(16, 12)] (by decide +kernel) _ List.mem_cons_self
theorem wj_15 : Cond.methodLink RJ0 1059 yJ3_checkIndex_8e157 ∈ wsL_law := gw_all (ws := [Cond.methodLink RJ0 1059 yJ3_checkIndex_8e157]) [(16, 15)] (by decide +kernel) _ List.mem_cons_self
theorem wj_16 : Cond.instanceMethod yJ0_length_8abf5 ∈ wsL_law := gw_all (ws := [Cond.instanceMethod yJ0_length_8abf5]) [(10, 13)] (by decide +kernel) _ List.mem_cons_self
theorem wj_17 : Cond.instanceMethod yJ0_coder_7d493 ∈ wsL_law := gw_all (ws := [Cond.instanceMethod yJ0_coder_7d493]) [(10, 18)] (by decide +kernel) _ List.mem_cons_self
theorem wj_18 : Cond.instanceMethod yJ0_charAt_5068e ∈ wsL_law := gw_all (ws := [Cond.instanceMethod yJ0_charAt_5068e]) [(16, 2)] (by decide +kernel) _ List.mem_cons_self
theorem wj_19 : Cond.instanceMethod yJ0_isLatin1_aae02 ∈ wsL_law := gw_all (ws := [Cond.instanceMethod yJ0_isLatin1_aae02]) [(16, 6)] (by decide +kernel) _ List.mem_cons_self
theorem wj_20 : Cond.selects RJ0 yJ0_length_8abf5 yJ0_length_8abf5 ∈ wsL_law := gw_all (ws := [Cond.selects RJ0 yJ0_length_8abf5 yJ0_length_8abf5]) [(10, 14)] (by decide +kernel) _ List.mem_cons_self
theorem wj_21 : Cond.selects RJ0 yJ0_coder_7d493 yJ0_coder_7d493 ∈ wsL_law := gw_all (ws := [Cond.selects RJ0 yJ0_coder_7d493 yJ0_coder_7d493]) [(10, 19)] (by decide +kernel) _ List.mem_cons_self
theorem wj_22 : Cond.selects RJ0 yJ0_charAt_5068e yJ0_charAt_5068e ∈ wsL_law := gw_all (ws := [Cond.selects RJ0 yJ0_charAt_5068e yJ0_charAt_5068e]) [(16, 3)] (by decide +kernel) _ List.mem_cons_self
theorem wj_23 : Cond.selects RJ0 yJ0_isLatin1_aae02 yJ0_isLatin1_aae02 ∈ wsL_law := gw_all (ws := [Cond.selects RJ0 yJ0_isLatin1_aae02 yJ0_isLatin1_aae02]) [(16, 7)] (by decide +kernel) _ List.mem_cons_self
theorem wj_24 : Cond.static yJ1_charAt_3b067 ∈ wsL_law := gw_all (ws := [Cond.static yJ1_charAt_3b067]) [(16, 10)] (by decide +kernel) _ List.mem_cons_self
theorem wj_25 : Cond.static yJ0_checkIndex_df160 ∈ wsL_law := gw_all (ws := [Cond.static yJ0_checkIndex_df160]) [(16, 13)] (by decide +kernel) _ List.mem_cons_self
theorem wj_26 : Cond.static yJ3_checkIndex_8e157 ∈ wsL_law := gw_all (ws := [Cond.static yJ3_checkIndex_8e157]) [(16, 16)] (by decide +kernel) _ List.mem_cons_self
theorem wj_27 : Cond.initialized RJ0 ∈ wsL_law := gw_all (ws := [Cond.initialized RJ0]) [(10, 0)] (by decide +kernel) _ List.mem_cons_self
theorem wj_28 : Cond.initialized RJ1 ∈ wsL_law := gw_all (ws := [Cond.initialized RJ1]) [(11, 14)] (by decide +kernel) _ List.mem_cons_self
theorem wj_29 : Cond.initialized RJ3 ∈ wsL_law := gw_all (ws := [Cond.initialized RJ3]) [(10, 5)] (by decide +kernel) _ List.mem_cons_self
def qJP (G : qG) (as : List Value) : Array Value → State → Prop := va_Pc as (fun U => qTB G U ∧ ∀ q, q < G.1 → U.heap[q]? = G.2.2.2.2.2.1[q]?)
def qJQ (v : Option Value) : Array Value → State → Outcome → State → Prop := fun _ st oc t => oc = .returned v ∧ t.heap = st.heap
def qJr (d : Nat) : Room := { frames := d, cells := 0, slots := 0, locals := 30 * d + 20 }
theorem qJblind (G : qG) (as : List Value) : FrameBlind (qJP G as) := fun a U g mk q => ⟨q.1, qTB.same q.2.1 rfl, q.2.2⟩
section QJ
variable {G : qG} {p : Program} {l : Launch} {e : Env} {R : Room} {s : State} {m : MethodId} {args : Array Value} {below : List Frame} {meth : Method} {c : Code} {H : Heap} {locs : List Loc} {cells slots : Nat} {Q : State → Prop}
theorem qj_go {pc : Nat} {ls : Array Slot} {st0 rest : List Value} {v : Option Value} {a : Array Value} (hr : va_Run p l e R s m args below meth c H locs cells slots 0 0 (F0 m pc ls st0) rest (qJQ v a) (fun _ => False)) (kk : W p l e R s m args below meth c H locs cells slots Q (F0 m (pc + 3) ls (v.toList ++ rest))) : W p l e R s m args below meth c H locs cells slots Q (F0 m pc ls st0) := by
  intro T hT X
  obtain ⟨v', st₀, t, T', L, h0, X', hL, e1, e2, ⟨hv, hh⟩, st⟩ := hr T hT X
  cases hv
  have hL0 : L = [] := by
    cases L with
    | nil => rfl
    | cons x y => exact (hL x List.mem_cons_self).elim
  subst hL0
  rw [List.append_nil] at X'
  obtain ⟨t2, a1, b1⟩ := kk T' (by rw [e1, hh, h0]) X'
  exact ⟨t2, st t2 a1, b1⟩
/-- what a method of the JDK's has at hand -/
def qJx (G : qG) (p : Program) (s : State) (m : MethodId) (args : Array Value) (c : Code) (own : String) (cc : ByteArray) (maxL : Nat) : Prop :=
  p.tables.exec = Jvm.exec ∧ c.code = cc ∧ c.maxLocals = maxL ∧ s.vm.findClass own = some m.cls ∧ (∀ w ∈ wsL_law, w.before args s = true) ∧ qTB G s ∧ (∀ q, q < G.1 → s.heap[q]? = G.2.2.2.2.2.1[q]?)
theorem qJZ (h : qTB G s) (h0 : ∀ q, q < G.1 → s.heap[q]? = G.2.2.2.2.2.1[q]?) : va_Z "java/lang/String" "COMPACT_STRINGS" "Z" (.int 1) (qA G) s s.heap := h.2.2.2.2.2.2.2.2.2.2.2.2.1.kept (fun a _ hA => h0 a (Nat.not_le.mp hA))
theorem qJF (h : qTB G s) (h0 : ∀ q, q < G.1 → s.heap[q]? = G.2.2.2.2.2.1[q]?) : va_Zq "jdk/internal/util/Preconditions" "SIOOBE_FORMATTER" "Ljava/util/function/BiFunction;" (qA G) s s.heap := h.2.2.2.2.2.2.2.2.2.2.2.2.2.1.kept (fun a _ hA => h0 a (Nat.not_le.mp hA))
theorem qJS (h : qTB G s) (h0 : ∀ q, q < G.1 → s.heap[q]? = G.2.2.2.2.2.1[q]?) {j : Nat} (hj : j < 10) : qSfact G s s.heap j := by
  obtain ⟨a1, a2, a3, a4⟩ := h.2.2.2.2.2.2.2.2.2.1 j hj
  have hk : ∀ a : Nat, a < G.2.2.2.2.2.1.size → ¬ qA G a → s.heap[a]? = G.2.2.2.2.2.1[a]? := fun a _ hA => h0 a (Nat.not_le.mp hA)
  exact ⟨a1.kept hk, a2.kept hk, a3.kept hk, a4.kept hk⟩
end QJ
theorem qJgood {C : Jvm.Cond} (h : C ∈ wsL_law) : GoodIn wsL_law (C :: wsL_law) := by
  intro w hw
  rcases List.mem_cons.mp hw with rfl | hw
  · exact ⟨h, (wsL_law_g _ h).2⟩
  · exact ⟨hw, (wsL_law_g _ hw).2⟩
set_option maxRecDepth 100000 in
set_option maxHeartbeats 4000000 in
theorem qj_coder (l : Launch) (G : qG) (j : Nat) (hj : j < 10) : Met l yJ0_coder_7d493 (Cond.code yJ0_coder_7d493 cJ0_coder_7d493 1 (some .byte) :: wsL_law) (qJr 1) (qJP G [.ref (G.2.1 j)]) (qJQ (some (.int 0))) 0 0 (fun _ => False) := by
  refine Met.ofW (cc := cJ0_coder_7d493) (maxL := 1) (ret := some .byte) (by decide) rfl ?_
  intro p e s m args below meth c s₁ B hml hv
  obtain ⟨rfl, hTB, h0⟩ := hv
  have hx := B.exec
  have hb := B.bytes
  have hr := B.returns
  have hts0 := atoms_spec (ws := Cond.code yJ0_coder_7d493 cJ0_coder_7d493 1 (some .byte) :: wsL_law) B.pre
  have hts : ∀ w ∈ wsL_law, w.before _ s = true := fun w hw => hts0 w (List.mem_cons_of_mem _ hw)
  have hown : s.vm.findClass RJ0 = some m.cls := findClass_of_methodNamed B.named
  have hlocks := B.notSynchronized
  have hS : va_S (qA G) s.heap s.heap [] := va_S.rf
  have hl := lv_entry ([.ref (G.2.1 j)]) (n := 1) (Nat.le_of_ble_eq_true rfl)
  rw [lg_entry_eq]
  generalize (lg_sl ([.ref (G.2.1 j)]) ++ List.replicate (1 - (lg_sl ([.ref (G.2.1 j)])).length) Slot.unset).toArray = ls at hl ⊢
  obtain ⟨z1, z2, z3, z4⟩ := qJS hTB h0 hj
  refine va_gets hx hb (qJZ hTB h0) hS hown (hts _ wj_8) (fun _ h => h) dJ0_coder_7d493_0 ?_
  refine lv_if_eq (tgt := 13) hx hb dJ0_coder_7d493_3 (by decide) (fun h => absurd h (by decide)) (fun _ => ?_)
  refine lv_aload_n hx hb dJ0_coder_7d493_6 rfl (lv_at hl 0 rfl) ?_
  refine vk_getf hx hb z2 hS hown (hts _ wj_9) (fun _ h => h) dJ0_coder_7d493_7 ?_
  refine lv_goto (tgt := 14) hx hb dJ0_coder_7d493_10 (by decide) ?_
  exact W.zret hx hb hr rfl (fun t ht _ => ⟨rfl, ht⟩) (fun z hz => nomatch hz) dJ0_coder_7d493_14
set_option maxRecDepth 100000 in
set_option maxHeartbeats 4000000 in
theorem qj_isLatin1 (l : Launch) (G : qG) (j : Nat) (hj : j < 10) : Met l yJ0_isLatin1_aae02 (Cond.code yJ0_isLatin1_aae02 cJ0_isLatin1_aae02 1 (some .boolean) :: wsL_law) (qJr 1) (qJP G [.ref (G.2.1 j)]) (qJQ (some (.int 1))) 0 0 (fun _ => False) := by
  refine Met.ofW (cc := cJ0_isLatin1_aae02) (maxL := 1) (ret := some .boolean) (by decide) rfl ?_
  intro p e s m args below meth c s₁ B hml hv
  obtain ⟨rfl, hTB, h0⟩ := hv
  have hx := B.exec
  have hb := B.bytes
  have hr := B.returns
  have hts0 := atoms_spec (ws := Cond.code yJ0_isLatin1_aae02 cJ0_isLatin1_aae02 1 (some .boolean) :: wsL_law) B.pre
  have hts : ∀ w ∈ wsL_law, w.before _ s = true := fun w hw => hts0 w (List.mem_cons_of_mem _ hw)
  have hown : s.vm.findClass RJ0 = some m.cls := findClass_of_methodNamed B.named
  have hlocks := B.notSynchronized
  have hS : va_S (qA G) s.heap s.heap [] := va_S.rf
  have hl := lv_entry ([.ref (G.2.1 j)]) (n := 1) (Nat.le_of_ble_eq_true rfl)
  rw [lg_entry_eq]
  generalize (lg_sl ([.ref (G.2.1 j)]) ++ List.replicate (1 - (lg_sl ([.ref (G.2.1 j)])).length) Slot.unset).toArray = ls at hl ⊢
  obtain ⟨z1, z2, z3, z4⟩ := qJS hTB h0 hj
  refine va_gets hx hb (qJZ hTB h0) hS hown (hts _ wj_8) (fun _ h => h) dJ0_isLatin1_aae02_0 ?_
  refine lv_if_eq (tgt := 17) hx hb dJ0_isLatin1_aae02_3 (by decide) (fun h => absurd h (by decide)) (fun _ => ?_)
  refine lv_aload_n hx hb dJ0_isLatin1_aae02_6 rfl (lv_at hl 0 rfl) ?_
  refine vk_getf hx hb z2 hS hown (hts _ wj_9) (fun _ h => h) dJ0_isLatin1_aae02_7 ?_
  refine lv_if_ne (tgt := 17) hx hb dJ0_isLatin1_aae02_10 (by decide) (fun h => absurd rfl h) (fun _ => ?_)
  refine lv_iconst (v := 1) hx hb dJ0_isLatin1_aae02_13 (by decide) ?_
  refine lv_goto (tgt := 18) hx hb dJ0_isLatin1_aae02_14 (by decide) ?_
  exact W.zret hx hb hr rfl (fun t ht _ => ⟨rfl, ht⟩) (fun z hz => nomatch hz) dJ0_isLatin1_aae02_18
set_option maxRecDepth 100000 in
set_option maxHeartbeats 4000000 in
theorem qj_len (l : Launch) (G : qG) (j : Nat) (hj : j < 10) : Met l yJ0_length_8abf5 (Cond.code yJ0_length_8abf5 cJ0_length_8abf5 1 (some .int) :: wsL_law) (qJr 2) (qJP G [.ref (G.2.1 j)]) (qJQ (some (.int (Int32.ofNat (qSlen.getD j 0))))) 0 0 (fun _ => False) := by
  refine Met.ofW (cc := cJ0_length_8abf5) (maxL := 1) (ret := some .int) (by decide) rfl ?_
  intro p e s m args below meth c s₁ B hml hv
  obtain ⟨rfl, hTB, h0⟩ := hv
  have hx := B.exec
  have hb := B.bytes
  have hr := B.returns
  have hts0 := atoms_spec (ws := Cond.code yJ0_length_8abf5 cJ0_length_8abf5 1 (some .int) :: wsL_law) B.pre
  have hts : ∀ w ∈ wsL_law, w.before _ s = true := fun w hw => hts0 w (List.mem_cons_of_mem _ hw)
  have hown : s.vm.findClass RJ0 = some m.cls := findClass_of_methodNamed B.named
  have hlocks := B.notSynchronized
  have hS : va_S (qA G) s.heap s.heap [] := va_S.rf
  have hl := lv_entry ([.ref (G.2.1 j)]) (n := 1) (Nat.le_of_ble_eq_true rfl)
  rw [lg_entry_eq]
  generalize (lg_sl ([.ref (G.2.1 j)]) ++ List.replicate (1 - (lg_sl ([.ref (G.2.1 j)])).length) Slot.unset).toArray = ls at hl ⊢
  obtain ⟨z1, z2, z3, z4⟩ := qJS hTB h0 hj
  refine lv_aload_n hx hb dJ0_length_8abf5_0 rfl (lv_at hl 0 rfl) ?_
  refine vk_getf hx hb z3 hS hown (hts _ wj_7) (fun _ h => h) dJ0_length_8abf5_1 ?_
  refine va_tlen hx hb z4 hS rfl dJ0_length_8abf5_4 ?_
  refine lv_aload_n hx hb dJ0_length_8abf5_5 rfl (lv_at hl 0 rfl) ?_
  refine qj_go (va_runV (nL := 1) (Ts := wsL_law) (C := RJ0) (As := []) (rest := [.int (Int32.ofNat (qSlen.getD j 0))]) ⟨hx, hb, hml, hown, hts⟩ (qj_coder l G j hj) ⟨⟨rfl, rfl, by show 1 + 1 ≤ 2; omega, by show 8 + (1 + 11) + (30 * 1 + 20) ≤ 30 * 2 + 20; omega, pay_in hts (qJgood wj_1), List.mem_cons_self, hts _ wj_1, hts _ wj_27, by decide, fun sig h => by cases h; rfl, hts _ wj_11⟩, hts _ wj_17, hts _ wj_21⟩ ⟨qJblind G _, by obtain ⟨cell, g1, g2, g3, -⟩ := z1; exact ⟨cell, g1, g2, g3⟩, fun U hU hW => ⟨rfl, qTB.warm hTB hW, by rw [hU]; exact h0⟩⟩ rfl rfl hl.1 rfl (lv_room (Nat.le_of_ble_eq_true rfl)) dJ0_length_8abf5_6 ⟨Nat.le_refl _, Nat.le_refl _⟩) ?_
  refine lv_ishr hx hb dJ0_length_8abf5_9 ?_
  have e9 : Int32.ofNat (qSlen.getD j 0) >>> ((0 : Int32) &&& 31) = Int32.ofNat (qSlen.getD j 0) := by
    have : ∀ x : Int32, x >>> ((0 : Int32) &&& 31) = x := by
      intro x
      have h1 : ((0 : Int32) &&& 31) = 0 := by decide
      rw [h1]
      exact Int32.shiftRight_zero
    exact this _
  rw [e9]
  exact W.iret hx hb hr (fun t ht _ => ⟨rfl, ht⟩) (fun z hz => nomatch hz) dJ0_length_8abf5_10
set_option maxRecDepth 100000 in
set_option maxHeartbeats 4000000 in
theorem qj_pre (l : Launch) (G : qG) (x n : Int32) (f : Value) (hf : f = .null ∨ ∃ t, f = .ref t) (h1 : ¬ x < 0) (h2 : x < n) : Met l yJ3_checkIndex_8e157 (Cond.code yJ3_checkIndex_8e157 cJ3_checkIndex_8e157 3 (some .int) :: wsL_law) (qJr 1) (qJP G [.int x, .int n, f]) (qJQ (some (.int x))) 0 0 (fun _ => False) := by
  refine Met.ofW (cc := cJ3_checkIndex_8e157) (maxL := 3) (ret := some .int) (by decide) rfl ?_
  intro p e s m args below meth c s₁ B hml hv
  obtain ⟨rfl, hTB, h0⟩ := hv
  have hx := B.exec
  have hb := B.bytes
  have hr := B.returns
  have hts0 := atoms_spec (ws := Cond.code yJ3_checkIndex_8e157 cJ3_checkIndex_8e157 3 (some .int) :: wsL_law) B.pre
  have hts : ∀ w ∈ wsL_law, w.before _ s = true := fun w hw => hts0 w (List.mem_cons_of_mem _ hw)
  have hown : s.vm.findClass RJ3 = some m.cls := findClass_of_methodNamed B.named
  have hlocks := B.notSynchronized
  have hS : va_S (qA G) s.heap s.heap [] := va_S.rf
  have hfc : f.category = 1 := by rcases hf with rfl | ⟨t, rfl⟩ <;> rfl
  have hl := lv_entry ([.int x, .int n, f]) (n := 3) (by rw [lg_sl_len _ (by intro w hw; simp only [List.mem_cons, List.not_mem_nil, or_false] at hw; rcases hw with rfl | rfl | rfl; rfl; rfl; exact hfc)]; exact Nat.le_refl _)
  rw [lg_entry_eq]
  generalize (lg_sl ([.int x, .int n, f]) ++ List.replicate (3 - (lg_sl ([.int x, .int n, f])).length) Slot.unset).toArray = ls at hl ⊢
  refine lv_iload_n hx hb dJ3_checkIndex_8e157_0 rfl (lv_at hl 0 rfl) ?_
  refine lv_if_lt (tgt := 9) hx hb dJ3_checkIndex_8e157_1 (by decide) (fun h => absurd h h1) (fun _ => ?_)
  refine lv_iload_n hx hb dJ3_checkIndex_8e157_4 rfl (lv_at hl 0 rfl) ?_
  refine lv_iload_n hx hb dJ3_checkIndex_8e157_5 rfl (lv_at hl 1 rfl) ?_
  refine lv_icmp_lt (tgt := 16) hx hb dJ3_checkIndex_8e157_6 (by decide) (fun _ => ?_) (fun h => absurd h2 h)
  refine lv_iload_n hx hb dJ3_checkIndex_8e157_16 rfl (lv_at hl 0 rfl) ?_
  exact W.iret hx hb hr (fun t ht _ => ⟨rfl, ht⟩) (fun z hz => nomatch hz) dJ3_checkIndex_8e157_17
set_option maxRecDepth 100000 in
set_option maxHeartbeats 4000000 in
theorem qj_chk (l : Launch) (G : qG) (x n : Int32) (h1 : ¬ x < 0) (h2 : x < n) : Met l yJ0_checkIndex_df160 (Cond.code yJ0_checkIndex_df160 cJ0_checkIndex_df160 2 none :: wsL_law) (qJr 2) (qJP G [.int x, .int n]) (qJQ none) 0 0 (fun _ => False) := by
  refine Met.ofW (cc := cJ0_checkIndex_df160) (maxL := 2) (ret := none) (by decide) rfl ?_
  intro p e s m args below meth c s₁ B hml hv
  obtain ⟨rfl, hTB, h0⟩ := hv
  have hx := B.exec
  have hb := B.bytes
  have hr := B.returns
  have hts0 := atoms_spec (ws := Cond.code yJ0_checkIndex_df160 cJ0_checkIndex_df160 2 none :: wsL_law) B.pre
  have hts : ∀ w ∈ wsL_law, w.before _ s = true := fun w hw => hts0 w (List.mem_cons_of_mem _ hw)
  have hown : s.vm.findClass RJ0 = some m.cls := findClass_of_methodNamed B.named
  have hlocks := B.notSynchronized
  have hS : va_S (qA G) s.heap s.heap [] := va_S.rf
  have hl := lv_entry ([.int x, .int n]) (n := 2) (Nat.le_of_ble_eq_true rfl)
  rw [lg_entry_eq]
  generalize (lg_sl ([.int x, .int n]) ++ List.replicate (2 - (lg_sl ([.int x, .int n])).length) Slot.unset).toArray = ls at hl ⊢
  refine lv_iload_n hx hb dJ0_checkIndex_df160_0 rfl (lv_at hl 0 rfl) ?_
  refine lv_iload_n hx hb dJ0_checkIndex_df160_1 rfl (lv_at hl 1 rfl) ?_
  rcases qJF hTB h0 with hZ | ⟨t, hZ⟩
  · refine va_gets hx hb hZ hS hown (hts _ wj_10) (fun _ h => h) dJ0_checkIndex_df160_2 ?_
    refine qj_go (va_runS (nL := 2) (Ts := wsL_law) (As := [.int x, .int n, .null]) (rest := []) ⟨hx, hb, hml, hown, hts⟩ (qj_pre l G x n .null (Or.inl rfl) h1 h2) ⟨⟨rfl, rfl, by show 1 + 1 ≤ 2; omega, by show 8 + (3 + 11) + (30 * 1 + 20) ≤ 30 * 2 + 20; omega, pay_in hts (qJgood wj_6), List.mem_cons_self, hts _ wj_6, hts _ wj_29, by decide, fun sig h => by cases h; rfl, hts _ wj_15⟩, hts _ wj_26⟩ ⟨qJblind G _, fun U hU hW => ⟨rfl, qTB.warm hTB hW, by rw [hU]; exact h0⟩⟩ rfl rfl hl.1 rfl (lv_room (Nat.le_of_ble_eq_true rfl)) dJ0_checkIndex_df160_5 ⟨Nat.le_refl _, Nat.le_refl _⟩) ?_
    refine lv_pop hx hb dJ0_checkIndex_df160_8 rfl ?_
    exact W.vret hx hb hr (fun t ht _ => ⟨rfl, ht⟩) (fun z hz => nomatch hz) dJ0_checkIndex_df160_9
  · refine va_gets hx hb hZ hS hown (hts _ wj_10) (fun _ h => h) dJ0_checkIndex_df160_2 ?_
    refine qj_go (va_runS (nL := 2) (Ts := wsL_law) (As := [.int x, .int n, .ref t]) (rest := []) ⟨hx, hb, hml, hown, hts⟩ (qj_pre l G x n (.ref t) (Or.inr ⟨t, rfl⟩) h1 h2) ⟨⟨rfl, rfl, by show 1 + 1 ≤ 2; omega, by show 8 + (3 + 11) + (30 * 1 + 20) ≤ 30 * 2 + 20; omega, pay_in hts (qJgood wj_6), List.mem_cons_self, hts _ wj_6, hts _ wj_29, by decide, fun sig h => by cases h; rfl, hts _ wj_15⟩, hts _ wj_26⟩ ⟨qJblind G _, fun U hU hW => ⟨rfl, qTB.warm hTB hW, by rw [hU]; exact h0⟩⟩ rfl rfl hl.1 rfl (lv_room (Nat.le_of_ble_eq_true rfl)) dJ0_checkIndex_df160_5 ⟨Nat.le_refl _, Nat.le_refl _⟩) ?_
    refine lv_pop hx hb dJ0_checkIndex_df160_8 rfl ?_
    exact W.vret hx hb hr (fun t ht _ => ⟨rfl, ht⟩) (fun z hz => nomatch hz) dJ0_checkIndex_df160_9
set_option maxRecDepth 100000 in
set_option maxHeartbeats 4000000 in
theorem qj_lat (l : Launch) (G : qG) (j : Nat) (hj : j < 10) (x : Int32) (h1 : ¬ x < 0) (h2 : x < Int32.ofNat (qSlen.getD j 0)) (hin : vp_in x (qSlen.getD j 0)) (r : Int32) (hrr : ((((qSbyt.getD j []).getD x.toNatClampNeg 0 &&& 255).toUInt32 % 65536).toInt32) = r) (hnr : narrow .char (.int r) = .int r) : Met l yJ1_charAt_3b067 (Cond.code yJ1_charAt_3b067 cJ1_charAt_3b067 2 (some .char) :: wsL_law) (qJr 3) (qJP G [.ref (G.2.1 (100 + j)), .int x]) (qJQ (some (.int r))) 0 0 (fun _ => False) := by
  refine Met.ofW (cc := cJ1_charAt_3b067) (maxL := 2) (ret := some .char) (by decide) rfl ?_
  intro p e s m args below meth c s₁ B hml hv
  obtain ⟨rfl, hTB, h0⟩ := hv
  have hx := B.exec
  have hb := B.bytes
  have hr := B.returns
  have hts0 := atoms_spec (ws := Cond.code yJ1_charAt_3b067 cJ1_charAt_3b067 2 (some .char) :: wsL_law) B.pre
  have hts : ∀ w ∈ wsL_law, w.before _ s = true := fun w hw => hts0 w (List.mem_cons_of_mem _ hw)
  have hown : s.vm.findClass RJ1 = some m.cls := findClass_of_methodNamed B.named
  have hlocks := B.notSynchronized
  have hS : va_S (qA G) s.heap s.heap [] := va_S.rf
  have hl := lv_entry ([.ref (G.2.1 (100 + j)), .int x]) (n := 2) (Nat.le_of_ble_eq_true rfl)
  rw [lg_entry_eq]
  generalize (lg_sl ([.ref (G.2.1 (100 + j)), .int x]) ++ List.replicate (2 - (lg_sl ([.ref (G.2.1 (100 + j)), .int x])).length) Slot.unset).toArray = ls at hl ⊢
  obtain ⟨z1, z2, z3, z4⟩ := qJS hTB h0 hj
  refine lv_iload_n hx hb dJ1_charAt_3b067_0 rfl (lv_at hl 1 rfl) ?_
  refine lv_aload_n hx hb dJ1_charAt_3b067_1 rfl (lv_at hl 0 rfl) ?_
  refine va_tlen hx hb z4 hS rfl dJ1_charAt_3b067_2 ?_
  refine qj_go (va_runS (nL := 2) (Ts := wsL_law) (As := [.int x, .int (Int32.ofNat (qSlen.getD j 0))]) (rest := []) ⟨hx, hb, hml, hown, hts⟩ (qj_chk l G x (Int32.ofNat (qSlen.getD j 0)) h1 h2) ⟨⟨rfl, rfl, by show 2 + 1 ≤ 3; omega, by show 8 + (2 + 11) + (30 * 2 + 20) ≤ 30 * 3 + 20; omega, pay_in hts (qJgood wj_5), List.mem_cons_self, hts _ wj_5, hts _ wj_27, by decide, fun sig h => by cases h; rfl, hts _ wj_14⟩, hts _ wj_25⟩ ⟨qJblind G _, fun U hU hW => ⟨rfl, qTB.warm hTB hW, by rw [hU]; exact h0⟩⟩ rfl rfl hl.1 rfl (lv_room (Nat.le_of_ble_eq_true rfl)) dJ1_charAt_3b067_3 ⟨Nat.le_refl _, Nat.le_refl _⟩) ?_
  refine lv_aload_n hx hb dJ1_charAt_3b067_6 rfl (lv_at hl 0 rfl) ?_
  refine lv_iload_n hx hb dJ1_charAt_3b067_7 rfl (lv_at hl 1 rfl) ?_
  refine va_tb hx hb z4 hS hin rfl dJ1_charAt_3b067_8 ?_
  refine lv_sipush (v := 255) hx hb dJ1_charAt_3b067_9 (by decide) ?_
  refine lv_iand hx hb dJ1_charAt_3b067_12 ?_
  refine lv_i2c hx hb dJ1_charAt_3b067_13 hrr ?_
  exact W.zret hx hb hr hnr (fun t ht _ => ⟨rfl, ht⟩) (fun z hz => nomatch hz) dJ1_charAt_3b067_14
set_option maxRecDepth 100000 in
set_option maxHeartbeats 4000000 in
theorem qj_chr (l : Launch) (G : qG) (j : Nat) (hj : j < 10) (x : Int32) (h1 : ¬ x < 0) (h2 : x < Int32.ofNat (qSlen.getD j 0)) (hin : vp_in x (qSlen.getD j 0)) (r : Int32) (hrr : ((((qSbyt.getD j []).getD x.toNatClampNeg 0 &&& 255).toUInt32 % 65536).toInt32) = r) (hnr : narrow .char (.int r) = .int r) : Met l yJ0_charAt_5068e (Cond.code yJ0_charAt_5068e cJ0_charAt_5068e 2 (some .char) :: wsL_law) (qJr 4) (qJP G [.ref (G.2.1 j), .int x]) (qJQ (some (.int r))) 0 0 (fun _ => False) := by
  refine Met.ofW (cc := cJ0_charAt_5068e) (maxL := 2) (ret := some .char) (by decide) rfl ?_
  intro p e s m args below meth c s₁ B hml hv
  obtain ⟨rfl, hTB, h0⟩ := hv
  have hx := B.exec
  have hb := B.bytes
  have hr := B.returns
  have hts0 := atoms_spec (ws := Cond.code yJ0_charAt_5068e cJ0_charAt_5068e 2 (some .char) :: wsL_law) B.pre
  have hts : ∀ w ∈ wsL_law, w.before _ s = true := fun w hw => hts0 w (List.mem_cons_of_mem _ hw)
  have hown : s.vm.findClass RJ0 = some m.cls := findClass_of_methodNamed B.named
  have hlocks := B.notSynchronized
  have hS : va_S (qA G) s.heap s.heap [] := va_S.rf
  have hl := lv_entry ([.ref (G.2.1 j), .int x]) (n := 2) (Nat.le_of_ble_eq_true rfl)
  rw [lg_entry_eq]
  generalize (lg_sl ([.ref (G.2.1 j), .int x]) ++ List.replicate (2 - (lg_sl ([.ref (G.2.1 j), .int x])).length) Slot.unset).toArray = ls at hl ⊢
  obtain ⟨z1, z2, z3, z4⟩ := qJS hTB h0 hj
  refine lv_aload_n hx hb dJ0_charAt_5068e_0 rfl (lv_at hl 0 rfl) ?_
  refine qj_go (va_runV (nL := 2) (Ts := wsL_law) (C := RJ0) (As := []) (rest := []) ⟨hx, hb, hml, hown, hts⟩ (qj_isLatin1 l G j hj) ⟨⟨rfl, rfl, by show 1 + 1 ≤ 4; omega, by show 8 + (1 + 11) + (30 * 1 + 20) ≤ 30 * 4 + 20; omega, pay_in hts (qJgood wj_3), List.mem_cons_self, hts _ wj_3, hts _ wj_27, by decide, fun sig h => by cases h; rfl, hts _ wj_12⟩, hts _ wj_19, hts _ wj_23⟩ ⟨qJblind G _, by obtain ⟨cell, g1, g2, g3, -⟩ := z1; exact ⟨cell, g1, g2, g3⟩, fun U hU hW => ⟨rfl, qTB.warm hTB hW, by rw [hU]; exact h0⟩⟩ rfl rfl hl.1 rfl (lv_room (Nat.le_of_ble_eq_true rfl)) dJ0_charAt_5068e_1 ⟨Nat.le_refl _, Nat.le_refl _⟩) ?_
  refine lv_if_eq (tgt := 16) hx hb dJ0_charAt_5068e_4 (by decide) (fun h => absurd h (by decide)) (fun _ => ?_)
  refine lv_aload_n hx hb dJ0_charAt_5068e_7 rfl (lv_at hl 0 rfl) ?_
  refine vk_getf hx hb z3 hS hown (hts _ wj_7) (fun _ h => h) dJ0_charAt_5068e_8 ?_
  refine lv_iload_n hx hb dJ0_charAt_5068e_11 rfl (lv_at hl 1 rfl) ?_
  refine qj_go (va_runS (nL := 2) (Ts := wsL_law) (As := [.ref (G.2.1 (100 + j)), .int x]) (rest := []) ⟨hx, hb, hml, hown, hts⟩ (qj_lat l G j hj x h1 h2 hin r hrr hnr) ⟨⟨rfl, rfl, by show 3 + 1 ≤ 4; omega, by show 8 + (2 + 11) + (30 * 3 + 20) ≤ 30 * 4 + 20; omega, pay_in hts (qJgood wj_4), List.mem_cons_self, hts _ wj_4, hts _ wj_28, by decide, fun sig h => by cases h; rfl, hts _ wj_13⟩, hts _ wj_24⟩ ⟨qJblind G _, fun U hU hW => ⟨rfl, qTB.warm hTB hW, by rw [hU]; exact h0⟩⟩ rfl rfl hl.1 rfl (lv_room (Nat.le_of_ble_eq_true rfl)) dJ0_charAt_5068e_12 ⟨Nat.le_refl _, Nat.le_refl _⟩) ?_
  exact W.zret hx hb hr hnr (fun t ht _ => ⟨rfl, ht⟩) (fun z hz => nomatch hz) dJ0_charAt_5068e_15
theorem qSlen_ok : ∀ j, j < 10 → qSlen.getD j 0 = (qStr j).length ∧ (qStr j).length ≤ 8 := by decide +kernel
theorem qchr_all : ∀ j, j < 10 → ∀ k, k < 8 → ((((qSbyt.getD j []).getD k 0 &&& 255).toUInt32 % 65536).toInt32) = Int32.ofInt ((qStr j).getD k 0) ∧ narrow .char (.int (Int32.ofInt ((qStr j).getD k 0))) = .int (Int32.ofInt ((qStr j).getD k 0)) := by decide +kernel
theorem qJSh {G : qG} {s : State} {H : Heap} (h : qTB G s) (h0 : ∀ q, q < G.1 → H[q]? = G.2.2.2.2.2.1[q]?) {j : Nat} (hj : j < 10) : qSfact G s H j := by
  obtain ⟨a1, a2, a3, a4⟩ := h.2.2.2.2.2.2.2.2.2.1 j hj
  have hk : ∀ a : Nat, a < G.2.2.2.2.2.1.size → ¬ qA G a → H[a]? = G.2.2.2.2.2.1[a]? := fun a _ hA => h0 a (Nat.not_le.mp hA)
  exact ⟨a1.kept hk, a2.kept hk, a3.kept hk, a4.kept hk⟩
