def wsE_x0 : List Cond := (vx_atS RX9 94 "java/lang/IllegalArgumentException" ["java/lang/RuntimeException", "java/lang/Exception"]).filter goodWord
theorem wsE_x0_m : ∀ w ∈ wsE_x0, w ∈ lw_tbl := by decide +kernel
theorem wsE_x0_g : GoodIn lw_tbl wsE_x0 := goodIn_sub wsE_x0_m (by decide +kernel)
def wsE_x1 : List Cond := (vx_atS RX9 192 "java/lang/IndexOutOfBoundsException" ["java/lang/RuntimeException", "java/lang/Exception"]).filter goodWord
theorem wsE_x1_m : ∀ w ∈ wsE_x1, w ∈ lw_tbl := by decide +kernel
theorem wsE_x1_g : GoodIn lw_tbl wsE_x1 := goodIn_sub wsE_x1_m (by decide +kernel)
abbrev nseB : ByteArray := prog_35_method_4_code
def wsE_x2 : List Cond := ((Bundle.throwableAtoms ++ Bundle.throwableSAtoms ++ (Bundle.passSAtoms "java/util/NoSuchElementException" "java/lang/RuntimeException" 13 nseB ++ Bundle.chainSAtoms "java/lang/RuntimeException" ["java/lang/Exception"]) ++ ([.methodLink RX9 244 (Bundle.initS "java/util/NoSuchElementException"), .instantiable "java/util/NoSuchElementException" 6, .castable "java/util/NoSuchElementException" "java/util/NoSuchElementException", .selects "java/util/NoSuchElementException" Bundle.tFill0 Bundle.tFill0, .selects "java/util/NoSuchElementException" Bundle.tFill Bundle.tFill, .lays "java/util/NoSuchElementException" Bundle.tN "cause" "Ljava/lang/Throwable;", .lays "java/util/NoSuchElementException" Bundle.tN "stackTrace" Bundle.steD, .lays "java/util/NoSuchElementException" Bundle.tN "suppressedExceptions" Bundle.listD, .lays "java/util/NoSuchElementException" Bundle.tN "detailMessage" "Ljava/lang/String;", .isRef (.static Bundle.tN "UNASSIGNED_STACK" Bundle.steD), .isRef (.static Bundle.tN "SUPPRESSED_SENTINEL" Bundle.listD), .fieldLink Bundle.tN 198 Bundle.tN "backtrace" "Ljava/lang/Object;", .lays Bundle.tN Bundle.tN "backtrace" "Ljava/lang/Object;",  .lays "java/util/NoSuchElementException" Bundle.tN "backtrace" "Ljava/lang/Object;"] : List Cond)).filter vx_no).filter goodWord
theorem wsE_x2_m : ∀ w ∈ wsE_x2, w ∈ lw_tbl := by decide +kernel
theorem wsE_x2_g : GoodIn lw_tbl wsE_x2 := goodIn_sub wsE_x2_m (by decide +kernel)
/-- four private methods of the builder: selected for it, whatever its class -/
def wsP : List Cond := [Cond.selects RJ4 yJ5_ensureCapacityInternal_d00df yJ5_ensureCapacityInternal_d00df, Cond.selects RJ4 yJ5_newCapacity_0f7a4 yJ5_newCapacity_0f7a4, Cond.selects RJ4 yJ5_putStringAt_47b60 yJ5_putStringAt_47b60, Cond.selects RJ4 yJ5_inflateIfNeededFor_a7421 yJ5_inflateIfNeededFor_a7421]
def qtbl : List Cond := lw_tbl ++ wsP
theorem qg_up {l : List Cond} (h : GoodIn lw_tbl l) : GoodIn qtbl l := fun w hw => ⟨List.mem_append_left _ (h w hw).1, (h w hw).2⟩
theorem wsP_g : GoodIn qtbl wsP := fun w hw => ⟨List.mem_append_right _ hw, good_of_word (List.all_eq_true.mp (show wsP.all goodWord = true by decide +kernel) w hw)⟩
def wsPp : List Cond := [Cond.privateMethod yJ5_ensureCapacityInternal_d00df, Cond.instanceMethod yJ5_ensureCapacityInternal_d00df, Cond.privateMethod yJ5_newCapacity_0f7a4, Cond.instanceMethod yJ5_newCapacity_0f7a4, Cond.privateMethod yJ5_putStringAt_47b60, Cond.instanceMethod yJ5_putStringAt_47b60, Cond.privateMethod yJ5_inflateIfNeededFor_a7421, Cond.instanceMethod yJ5_inflateIfNeededFor_a7421, Cond.instantiable RJ4 4]
theorem wsPp_m : ∀ w ∈ wsPp, w ∈ lw_tbl := by decide +kernel
def qgwL : List (List Cond) := [wsL_law0_r1, wsL_law0_r2, wsL_law0_r3, wsL_law0_r4, wsL_law0_r5, wsL_law0_r6, wsL_law0_r7, wsL_law0_r8, wsL_law0_r9, wsL_law0_r10, wsL_law0_r11, wsL_law0_r12, wsL_law0_r13, wsL_law0_r14, wsL_law0_r15, wsL_law0_r16, wsL_law0_r17, wsL_law0_r18, wsL_law0_r19, wsL_law0_r20, wsL_law0_r21, wsL_law0_r22, wsL_law0_r23, wsL_law0_r24, wsL_law0_r25, wsL_law0_r26, wsL_law0_r27, wsL_law0_r28, wsL_law0_r29, wsL_law0_r30, wsL_law0_r31, wsL_law0_r32, wsL_law0_r33, wsL_law0_r34, wsL_law0_r35, wsL0, wsX90, wsX50, wsX10, wsX40, wsX60, wsX70, wsX80, wsX20, wsX30, wsJ40, wsJ00, wsE_x0, wsE_x1, wsE_x2, wsP]
def wsL_law : List Cond := qgwL.flatten
theorem qgwL_g : ∀ l ∈ qgwL, GoodIn qtbl l := List.forall_mem_cons.mpr ⟨qg_up wsL_law0_r1_g, List.forall_mem_cons.mpr ⟨qg_up wsL_law0_r2_g, List.forall_mem_cons.mpr ⟨qg_up wsL_law0_r3_g, List.forall_mem_cons.mpr ⟨qg_up wsL_law0_r4_g, List.forall_mem_cons.mpr ⟨qg_up wsL_law0_r5_g, List.forall_mem_cons.mpr ⟨qg_up wsL_law0_r6_g, List.forall_mem_cons.mpr ⟨qg_up wsL_law0_r7_g, List.forall_mem_cons.mpr ⟨qg_up wsL_law0_r8_g, List.forall_mem_cons.mpr ⟨qg_up wsL_law0_r9_g, List.forall_mem_cons.mpr ⟨qg_up wsL_law0_r10_g, List.forall_mem_cons.mpr ⟨qg_up wsL_law0_r11_g, List.forall_mem_cons.mpr ⟨qg_up wsL_law0_r12_g, List.forall_mem_cons.mpr ⟨qg_up wsL_law0_r13_g, List.forall_mem_cons.mpr ⟨qg_up wsL_law0_r14_g, List.forall_mem_cons.mpr ⟨qg_up wsL_law0_r15_g, List.forall_mem_cons.mpr ⟨qg_up wsL_law0_r16_g, List.forall_mem_cons.mpr ⟨qg_up wsL_law0_r17_g, List.forall_mem_cons.mpr ⟨qg_up wsL_law0_r18_g, List.forall_mem_cons.mpr ⟨qg_up wsL_law0_r19_g, List.forall_mem_cons.mpr ⟨qg_up wsL_law0_r20_g, List.forall_mem_cons.mpr ⟨qg_up wsL_law0_r21_g, List.forall_mem_cons.mpr ⟨qg_up wsL_law0_r22_g, List.forall_mem_cons.mpr ⟨qg_up wsL_law0_r23_g, List.forall_mem_cons.mpr ⟨qg_up wsL_law0_r24_g, List.forall_mem_cons.mpr ⟨qg_up wsL_law0_r25_g, List.forall_mem_cons.mpr ⟨qg_up wsL_law0_r26_g, List.forall_mem_cons.mpr ⟨qg_up wsL_law0_r27_g, List.forall_mem_cons.mpr ⟨qg_up wsL_law0_r28_g, List.forall_mem_cons.mpr ⟨qg_up wsL_law0_r29_g, List.forall_mem_cons.mpr ⟨qg_up wsL_law0_r30_g, List.forall_mem_cons.mpr ⟨qg_up wsL_law0_r31_g, List.forall_mem_cons.mpr ⟨qg_up wsL_law0_r32_g, List.forall_mem_cons.mpr ⟨qg_up wsL_law0_r33_g, List.forall_mem_cons.mpr ⟨qg_up wsL_law0_r34_g, List.forall_mem_cons.mpr ⟨qg_up wsL_law0_r35_g, List.forall_mem_cons.mpr ⟨qg_up wsL0_g, List.forall_mem_cons.mpr ⟨qg_up wsX90_g, List.forall_mem_cons.mpr ⟨qg_up wsX50_g, List.forall_mem_cons.mpr ⟨qg_up wsX10_g, List.forall_mem_cons.mpr ⟨qg_up wsX40_g, List.forall_mem_cons.mpr ⟨qg_up wsX60_g, List.forall_mem_cons.mpr ⟨qg_up wsX70_g, List.forall_mem_cons.mpr ⟨qg_up wsX80_g, List.forall_mem_cons.mpr ⟨qg_up wsX20_g, List.forall_mem_cons.mpr ⟨qg_up wsX30_g, List.forall_mem_cons.mpr ⟨qg_up wsJ40_g, List.forall_mem_cons.mpr ⟨qg_up wsJ00_g, List.forall_mem_cons.mpr ⟨qg_up wsE_x0_g, List.forall_mem_cons.mpr ⟨qg_up wsE_x1_g, List.forall_mem_cons.mpr ⟨qg_up wsE_x2_g, List.forall_mem_cons.mpr ⟨wsP_g, fun _ h => absurd h List.not_mem_nil⟩⟩⟩⟩⟩⟩⟩⟩⟩⟩⟩⟩⟩⟩⟩⟩⟩⟩⟩⟩⟩⟩⟩⟩⟩⟩⟩⟩⟩⟩⟩⟩⟩⟩⟩⟩⟩⟩⟩⟩⟩⟩⟩⟩⟩⟩⟩⟩⟩⟩⟩
theorem wsL_law_g : GoodIn qtbl wsL_law := by
  intro w hw
  obtain ⟨l, hl, h⟩ := List.mem_flatten.mp hw
  exact qgwL_g l hl w h
def qpl (q : Nat × Nat) : Option Cond := (qgwL[q.1]?).bind (fun l => l[q.2]?)
theorem gw_set {k : Nat} {l : List Cond} (h : qgwL[k]? = some l) : ∀ w ∈ l, w ∈ wsL_law := fun w hw => List.mem_flatten.mpr ⟨l, List.mem_of_getElem? h, hw⟩
theorem gw_all {ws : List Cond} (ps : List (Nat × Nat)) (hp : ws = ps.filterMap qpl) : ∀ w ∈ ws, w ∈ wsL_law := by
  intro w hw
  rw [hp] at hw
  obtain ⟨q, -, hq⟩ := List.mem_filterMap.mp hw
  unfold qpl at hq
  cases hl : qgwL[q.1]? with
  | none => rw [hl] at hq; cases hq
  | some l => rw [hl] at hq; exact gw_set hl w (List.mem_of_getElem? hq)
theorem inlL : ∀ w ∈ wsL0, w ∈ wsL_law := gw_set (k := 35) rfl
theorem inlX9 : ∀ w ∈ wsX90, w ∈ wsL_law := gw_set (k := 36) rfl
theorem inlX5 : ∀ w ∈ wsX50, w ∈ wsL_law := gw_set (k := 37) rfl
theorem inlX1 : ∀ w ∈ wsX10, w ∈ wsL_law := gw_set (k := 38) rfl
theorem inlX4 : ∀ w ∈ wsX40, w ∈ wsL_law := gw_set (k := 39) rfl
theorem inlX6 : ∀ w ∈ wsX60, w ∈ wsL_law := gw_set (k := 40) rfl
theorem inlX7 : ∀ w ∈ wsX70, w ∈ wsL_law := gw_set (k := 41) rfl
theorem inlX8 : ∀ w ∈ wsX80, w ∈ wsL_law := gw_set (k := 42) rfl
theorem inlX2 : ∀ w ∈ wsX20, w ∈ wsL_law := gw_set (k := 43) rfl
theorem inlX3 : ∀ w ∈ wsX30, w ∈ wsL_law := gw_set (k := 44) rfl
theorem inlJ4 : ∀ w ∈ wsJ40, w ∈ wsL_law := gw_set (k := 45) rfl
theorem inlJ0 : ∀ w ∈ wsJ00, w ∈ wsL_law := gw_set (k := 46) rfl
theorem inE_x0 : ∀ w ∈ wsE_x0, w ∈ wsL_law := gw_set (k := 47) rfl
theorem inE_x1 : ∀ w ∈ wsE_x1, w ∈ wsL_law := gw_set (k := 48) rfl
theorem inE_x2 : ∀ w ∈ wsE_x2, w ∈ wsL_law := gw_set (k := 49) rfl
