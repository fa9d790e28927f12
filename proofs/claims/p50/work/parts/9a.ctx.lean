/-! what holds of the tables at every start of a method, and how it goes on -/
def qSlen : List Nat := qTxB.map List.length
def qSbyt : List (List Int32) := qTxB.map (fun l => l.map Int32.ofInt)
def qSfact (G : qG) (U : State) (H : Heap) (i : Nat) : Prop := va_O "java/lang/String" (G.2.1 i) (qA G) U H ∧ va_OF "java/lang/String" "coder" "B" (.int 0) (G.2.1 i) (qA G) U H ∧ va_OF "java/lang/String" "value" "[B" (.ref (G.2.1 (100 + i))) (G.2.1 i) (qA G) U H ∧ va_T .byte (G.2.1 (100 + i)) (qSlen.getD i 0) (fun j => .int ((qSbyt.getD i []).getD j 0)) (qA G) U H
def qTB (G : qG) (U : State) : Prop :=
  va_K G.2.2.2.1 qKs (qtys G) U ∧ (∀ e ∈ qTcL, e.2.2.1 = 3 → va_Nw (.methodLinkNest (qNm e.1) e.2.1 e.2.2.2.1.2.1 "SwitchGraphs") U) ∧ va_AO RX1 U ∧
  (∀ e ∈ qTxL, ∃ sa : Nat, vk_R (qNm e.1) e.2.2.1 e.2.2.2.2.2.2 sa U) ∧ (∀ k, k < 3 → va_Nw (.castable (qEx k) (qEx k)) U) ∧ (∀ j k, j < 3 → k < 3 → j ≠ k → va_Nc (qEx j) (qEx k) U) ∧
  (∀ e ∈ qTsL, vk_R (qNm e.1) e.2.1 (qTx1.getD e.2.2 "") (G.2.1 e.2.2) U) ∧ vx_Zq Bundle.tN "UNASSIGNED_STACK" Bundle.steD (qA G) U G.2.2.2.2.2.1 ∧ vx_Zq Bundle.tN "SUPPRESSED_SENTINEL" Bundle.listD (qA G) U G.2.2.2.2.2.1 ∧
  (∀ i, i < 10 → qSfact G U G.2.2.2.2.2.1 i) ∧ va_X (G.2.1 1000) G.2.2.2.2.2.2.1 G.2.2.2.2.2.2.2 U G.2.2.2.2.2.1 ∧ G.1 = G.2.2.2.2.2.1.size ∧ va_Z "java/lang/String" "COMPACT_STRINGS" "Z" (.int 1) (qA G) U G.2.2.2.2.2.1 ∧ va_Zq "jdk/internal/util/Preconditions" "SIOOBE_FORMATTER" "Ljava/util/function/BiFunction;" (qA G) U G.2.2.2.2.2.1 ∧ va_AOA .int U ∧ va_Nw (.castable "[B" "java/lang/Cloneable") U ∧ va_Z "java/lang/Integer" "DigitOnes" "[B" (.ref (G.2.1 300)) (qA G) U G.2.2.2.2.2.1 ∧ va_T .byte (G.2.1 300) 100 (fun j => .int (Int32.ofNat (48 + j % 10))) (qA G) U G.2.2.2.2.2.1
theorem qTB.warm {G : qG} {s U : State} (h : qTB G s) (hW : s.WarmedH U.vm) : qTB G U := by
  obtain ⟨h1, h2, h3, h4, h5, h6, h7, h8, h9, h10, h11, h12, h13, h14, h15, h16, h17, h18⟩ := h
  have ha := hW.alike
  exact ⟨va_K.moved ha h1, fun e he h0 => va_Nw.warmM hW (h2 e he h0), va_AO.moved ha h3, fun e he => (h4 e he).imp (fun _ h => vk_R.warm hW h), fun k hk => va_Nw.warmC hW (h5 k hk), fun j k hj hk hne => va_Nc.moved ha (h6 j k hj hk hne), fun e he => vk_R.warm hW (h7 e he), vx_Zq.moved ha h8, vx_Zq.moved ha h9,
    fun i hi => ⟨va_O.moved ha (h10 i hi).1, va_OF.moved ha (h10 i hi).2.1, va_OF.moved ha (h10 i hi).2.2.1, va_T.moved ha (h10 i hi).2.2.2⟩, va_X.moved ha h11, h12, va_Z.moved ha h13, va_Zq.moved ha h14, va_AOA.moved ha h15, va_Nw.warmC hW h16, va_Z.moved ha h17, va_T.moved ha h18⟩
theorem qTB.same {G : qG} {s U : State} (h : qTB G s) (hv : U.vm = s.vm) : qTB G U := by
  obtain ⟨h1, h2, h3, h4, h5, h6, h7, h8, h9, h10, h11, h12, h13, h14, h15, h16, h17, h18⟩ := h
  have ha : s.vm.Alike U.vm := by rw [hv]; exact Vm.Alike.refl _
  exact ⟨va_K.moved ha h1, fun e he h0 => va_Nw.same rfl hv.symm (h2 e he h0), va_AO.moved ha h3, fun e he => (h4 e he).imp (fun _ h => vk_R.same hv h), fun k hk => va_Nw.same rfl hv.symm (h5 k hk), fun j k hj hk hne => va_Nc.moved ha (h6 j k hj hk hne), fun e he => vk_R.same hv (h7 e he), vx_Zq.moved ha h8, vx_Zq.moved ha h9,
    fun i hi => ⟨va_O.moved ha (h10 i hi).1, va_OF.moved ha (h10 i hi).2.1, va_OF.moved ha (h10 i hi).2.2.1, va_T.moved ha (h10 i hi).2.2.2⟩, va_X.moved ha h11, h12, va_Z.moved ha h13, va_Zq.moved ha h14, va_AOA.moved ha h15, va_Nw.same rfl hv.symm h16, va_Z.moved ha h17, va_T.moved ha h18⟩
/-- a frame of method M, from state s on -/
def qCx (G : qG) (M : qM) (p : Program) (s : State) (m : MethodId) (args : Array Value) (meth : Method) (c : Code) : Prop :=
  p.tables.exec = Jvm.exec ∧ c.code = M.2.2.1 ∧ c.maxLocals = M.2.2.2.1 ∧ meth.name = M.2.1.name ∧ s.vm.findClass (qNm M.1) = some m.cls ∧ (∀ w ∈ wsL_law, w.before args s = true) ∧ meth.sig.returnType = M.2.2.2.2.1 ∧ meth.locks = false ∧ qTB G s ∧ (∀ q, q < G.1 → s.heap[q]? = G.2.2.2.2.2.1[q]?)
/-! the tables' words -/
theorem qmap_in {α : Type} {l : List α} {f : α → Cond} {ps : List (Nat × Nat)} (h : l.map f = ps.filterMap qpl) {a : α} (ha : a ∈ l) : f a ∈ wsL_law := gw_all ps h _ (List.mem_map_of_mem ha)
theorem qcl_in {ci : Nat} {q : vw_C} (h : qKs[ci]? = some q) : (∀ w ∈ u_ws q.1 q.2.1 q.2.2, w ∈ wsL_law) ∧ (∀ k, k < q.2.2 → parseFieldDescriptor (q.2.1 k).2.2.1 = some (qty ci k)) ∧ (∀ a, a < q.2.2 → ∀ b, b < q.2.2 → a ≠ b → (q.2.1 a).2.1 ≠ (q.2.1 b).2.1) ∧ (qdef ci).length = q.2.2 := by
  match ci, h with
  | 0, h => cases h; exact ⟨inlX1, tyX1_ok, nmX1, rfl⟩
  | 1, h => cases h; exact ⟨inlX2, tyX2_ok, nmX2, rfl⟩
  | 2, h => cases h; exact ⟨inlX3, tyX3_ok, nmX3, rfl⟩
  | 3, h => cases h; exact ⟨inlX4, tyX4_ok, nmX4, rfl⟩
  | 4, h => cases h; exact ⟨inlX5, tyX5_ok, nmX5, rfl⟩
  | 5, h => cases h; exact ⟨inlX6, tyX6_ok, nmX6, rfl⟩
  | 6, h => cases h; exact ⟨inlX7, tyX7_ok, nmX7, rfl⟩
  | 7, h => cases h; exact ⟨inlX8, tyX8_ok, nmX8, rfl⟩
  | 8, h => cases h; exact ⟨inlX9, tyX9_ok, nmX9, rfl⟩
  | 9, h => cases h; exact ⟨inlL, tyL_ok, nmL, rfl⟩
  | 10, h => cases h; exact ⟨inlJ0, tyJ0_ok, nmJ0, rfl⟩
  | 11, h => cases h; exact ⟨inlJ4, tyJ4_ok, nmJ4, rfl⟩
  | k + 12, h => simp [qKs] at h
theorem qdef_V (G : qG) {ci : Nat} {q : vw_C} (h : qKs[ci]? = some q) : (qdef ci).map (qV G) = qdef ci ∧ ∀ k, k < q.2.2 → defaultValue (qty ci k) = vp_V (qdef ci) k := by
  match ci, h with
  | 0, h => cases h; exact ⟨rfl, by decide +kernel⟩
  | 1, h => cases h; exact ⟨rfl, by decide +kernel⟩
  | 2, h => cases h; exact ⟨rfl, by decide +kernel⟩
  | 3, h => cases h; exact ⟨rfl, by decide +kernel⟩
  | 4, h => cases h; exact ⟨rfl, by decide +kernel⟩
  | 5, h => cases h; exact ⟨rfl, by decide +kernel⟩
  | 6, h => cases h; exact ⟨rfl, by decide +kernel⟩
  | 7, h => cases h; exact ⟨rfl, by decide +kernel⟩
  | 8, h => cases h; exact ⟨rfl, by decide +kernel⟩
  | 9, h => cases h; exact ⟨rfl, by decide +kernel⟩
  | 10, h => cases h; exact ⟨rfl, by decide +kernel⟩
  | 11, h => cases h; exact ⟨rfl, by decide +kernel⟩
  | k + 12, h => simp [qKs] at h
theorem qgetD {ci : Nat} {q : vw_C} (h : qKs[ci]? = some q) : qKs.getD ci (RX1, TX1, 3) = q := by
  rw [List.getD_eq_getElem?_getD, h]; rfl
theorem qTfL_ok : qTfL.all (fun e => decide (e.2.2.1 < 12) && decide (e.2.2.2 < (qKs.getD e.2.2.1 (RX1, TX1, 3)).2.2)) = true := by decide +kernel
theorem qTf_ok {c i ci k : Nat} (h : qTf c i = some (ci, k)) : ∃ q, qKs[ci]? = some q ∧ k < q.2.2 ∧ Cond.fieldLink (qNm c) i (q.2.1 k).1 (q.2.1 k).2.1 (q.2.1 k).2.2.1 ∈ wsL_law := by
  unfold qTf at h
  cases hf : qTfL.find? (fun e => e.1 == c && e.2.1 == i) with
  | none => rw [hf] at h; cases h
  | some e =>
    rw [hf] at h
    have hm := List.mem_of_find?_eq_some hf
    have hp := List.find?_some hf
    simp only [Bool.and_eq_true, beq_iff_eq] at hp
    have h2 : e.2.2 = (ci, k) := Option.some.inj h
    have ho := List.all_eq_true.mp qTfL_ok e hm
    simp only [Bool.and_eq_true, decide_eq_true_eq] at ho
    have hw := qmap_in qTfL_w hm
    obtain ⟨e1, e2, e3, e4⟩ := e
    dsimp only at hp h2 ho hw
    obtain ⟨rfl, rfl⟩ := hp
    cases h2
    have hlt : ci < qKs.length := ho.1
    refine ⟨qKs[ci], List.getElem?_eq_getElem hlt, ?_, ?_⟩
    · have := ho.2
      rwa [qgetD (List.getElem?_eq_getElem hlt)] at this
    · rwa [qgetD (List.getElem?_eq_getElem hlt)] at hw
theorem qTnL_ok : qTnL.all (fun e => decide (e.2.2 < 12)) = true := by decide +kernel
theorem qTn_ok {c i ci : Nat} (h : qTn c i = some ci) : ∃ q, qKs[ci]? = some q ∧ Cond.classLink (qNm c) i q.1 ∈ wsL_law ∧ Cond.instantiable q.1 q.2.2 ∈ wsL_law ∧ Cond.initialized q.1 ∈ wsL_law := by
  unfold qTn at h
  cases hf : qTnL.find? (fun e => e.1 == c && e.2.1 == i) with
  | none => rw [hf] at h; cases h
  | some e =>
    rw [hf] at h
    have hm := List.mem_of_find?_eq_some hf
    have hp := List.find?_some hf
    simp only [Bool.and_eq_true, beq_iff_eq] at hp
    have h2 : e.2.2 = ci := Option.some.inj h
    have ho := List.all_eq_true.mp qTnL_ok e hm
    simp only [decide_eq_true_eq] at ho
    have hw1 := qmap_in qTn_k hm
    have hw2 := qmap_in qTn_i hm
    have hw3 := qmap_in qTn_n hm
    obtain ⟨e1, e2, e3⟩ := e
    dsimp only at hp h2 ho hw1 hw2 hw3
    obtain ⟨rfl, rfl⟩ := hp
    subst h2
    have hlt : e3 < qKs.length := ho
    rw [qgetD (List.getElem?_eq_getElem hlt)] at hw1 hw2 hw3
    exact ⟨qKs[e3], List.getElem?_eq_getElem hlt, hw1, hw2, hw3⟩
theorem qTc_ok {c i mo n : Nat} {C : qM} (h : qTc c i = some (mo, C, n)) : (c, i, mo, C, n) ∈ qTcL := by
  unfold qTc at h
  cases hf : qTcL.find? (fun e => e.1 == c && e.2.1 == i) with
  | none => rw [hf] at h; cases h
  | some e =>
    rw [hf] at h
    have hm := List.mem_of_find?_eq_some hf
    have hp := List.find?_some hf
    simp only [Bool.and_eq_true, beq_iff_eq] at hp
    have h2 : e.2.2 = (mo, C, n) := Option.some.inj h
    obtain ⟨e1, e2, e3⟩ := e
    dsimp only at hp h2
    obtain ⟨rfl, rfl⟩ := hp
    subst h2
    exact hm
theorem qTcM_in {c i mo n : Nat} {C : qM} (h : (c, i, mo, C, n) ∈ qTcL) : (c, i, mo, C, n) ∈ qTcM mo := List.mem_filter.mpr ⟨h, by simp⟩
theorem qTs_ok {c i j : Nat} (h : qTs c i = some j) : (c, i, j) ∈ qTsL := by
  unfold qTs at h
  cases hf : qTsL.find? (fun e => e.1 == c && e.2.1 == i) with
  | none => rw [hf] at h; cases h
  | some e =>
    rw [hf] at h
    have hm := List.mem_of_find?_eq_some hf
    have hp := List.find?_some hf
    simp only [Bool.and_eq_true, beq_iff_eq] at hp
    have h2 : e.2.2 = j := Option.some.inj h
    obtain ⟨e1, e2, e3⟩ := e
    dsimp only at hp h2
    obtain ⟨rfl, rfl⟩ := hp
    subst h2
    exact hm
theorem qarr_w : ∀ w ∈ [Cond.arrayClass .int, Cond.arrayClass .byte, Cond.arrayClass .char], w ∈ wsL_law := gw_all _ qTa_a
theorem qta_w : ∀ w ∈ [Cond.classLink RX2 9 RX1, Cond.classLink RL 13 "[[I"], w ∈ wsL_law := gw_all _ qTa_k
theorem qacp_w : ∀ w ∈ [Cond.native arraycopyName, Cond.static arraycopyName, Cond.initialized "java/lang/System"], w ∈ wsL_law := gw_all _ qAcp_w
theorem qmath_w : ∀ w ∈ [Cond.static Lib.Math.max.name, Cond.static Lib.Math.min.name, Cond.initialized "java/lang/Math", Cond.code Lib.Math.max.name Lib.Math.max.code 2 (some .int), Cond.code Lib.Math.min.name Lib.Math.min.code 2 (some .int)], w ∈ wsL_law := gw_all _ qMath_w
theorem qobj_w : ∀ w ∈ [Cond.instanceMethod objectInit, Cond.code objectInit ⟨#[0xb1]⟩ 1 none], w ∈ wsL_law := gw_all _ qObj_w
theorem qTg_ok {c i k : Nat} (h : qTg c i = some k) : (if k = 0 then Cond.fieldLink (qNm c) i "java/lang/String" "COMPACT_STRINGS" "Z" else Cond.fieldLink (qNm c) i "java/lang/Integer" "DigitOnes" "[B") ∈ wsL_law := by
  unfold qTg at h
  cases hf : qTgL.find? (fun e => e.1 == c && e.2.1 == i) with
  | none => rw [hf] at h; cases h
  | some e =>
    rw [hf] at h
    have hm := List.mem_of_find?_eq_some hf
    have hp := List.find?_some hf
    simp only [Bool.and_eq_true, beq_iff_eq] at hp
    have h2 : e.2.2 = k := Option.some.inj h
    have := qmap_in qTg_w hm
    obtain ⟨e1, e2, e3⟩ := e
    dsimp only at hp h2 this
    obtain ⟨rfl, rfl⟩ := hp
    subst h2
    exact this
theorem qTo_ok {c i : Nat} {v : Int} (h : qTo c i = some v) : Cond.constant (qNm c) i (Int32.ofInt v) ∈ wsL_law := by
  unfold qTo at h
  cases hf : qToL.find? (fun e => e.1 == c && e.2.1 == i) with
  | none => rw [hf] at h; cases h
  | some e =>
    rw [hf] at h
    have hm := List.mem_of_find?_eq_some hf
    have hp := List.find?_some hf
    simp only [Bool.and_eq_true, beq_iff_eq] at hp
    have h2 : e.2.2 = v := Option.some.inj h
    have := qmap_in qToL_w hm
    obtain ⟨e1, e2, e3⟩ := e
    dsimp only at hp h2 this
    obtain ⟨rfl, rfl⟩ := hp
    subst h2
    exact this
