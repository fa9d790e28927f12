def wsE_x0 : List Cond := (vx_atS RX9 94 "java/lang/IllegalArgumentException" ["java/lang/RuntimeException", "java/lang/Exception"]).filter goodWord
theorem wsE_x0_m : ∀ w ∈ wsE_x0, w ∈ lw_tbl := by decide +kernel
theorem wsE_x0_g : GoodIn lw_tbl wsE_x0 := goodIn_sub wsE_x0_m (by decide +kernel)
def wsE_x1 : List Cond := (vx_atS RX9 192 "java/lang/IndexOutOfBoundsException" ["java/lang/RuntimeException", "java/lang/Exception"]).filter goodWord
theorem wsE_x1_m : ∀ w ∈ wsE_x1, w ∈ lw_tbl := by decide +kernel
theorem wsE_x1_g : GoodIn lw_tbl wsE_x1 := goodIn_sub wsE_x1_m (by decide +kernel)
def wsE_x3 : List Cond := (vx_atS RX9 272 "java/lang/IllegalStateException" ["java/lang/RuntimeException", "java/lang/Exception"]).filter goodWord
theorem wsE_x3_m : ∀ w ∈ wsE_x3, w ∈ lw_tbl := by decide +kernel
theorem wsE_x3_g : GoodIn lw_tbl wsE_x3 := goodIn_sub wsE_x3_m (by decide +kernel)
abbrev nseB : ByteArray := prog_28_method_4_code
def wsE_x2 : List Cond := ((Bundle.throwableAtoms ++ Bundle.throwableSAtoms ++ (Bundle.passSAtoms "java/util/NoSuchElementException" "java/lang/RuntimeException" 13 nseB ++ Bundle.chainSAtoms "java/lang/RuntimeException" ["java/lang/Exception"]) ++ ([.methodLink RX9 244 (Bundle.initS "java/util/NoSuchElementException"), .instantiable "java/util/NoSuchElementException" 6, .castable "java/util/NoSuchElementException" "java/util/NoSuchElementException", .selects "java/util/NoSuchElementException" Bundle.tFill0 Bundle.tFill0, .selects "java/util/NoSuchElementException" Bundle.tFill Bundle.tFill, .lays "java/util/NoSuchElementException" Bundle.tN "cause" "Ljava/lang/Throwable;", .lays "java/util/NoSuchElementException" Bundle.tN "stackTrace" Bundle.steD, .lays "java/util/NoSuchElementException" Bundle.tN "suppressedExceptions" Bundle.listD, .lays "java/util/NoSuchElementException" Bundle.tN "detailMessage" "Ljava/lang/String;", .isRef (.static Bundle.tN "UNASSIGNED_STACK" Bundle.steD), .isRef (.static Bundle.tN "SUPPRESSED_SENTINEL" Bundle.listD), .fieldLink Bundle.tN 198 Bundle.tN "backtrace" "Ljava/lang/Object;", .lays Bundle.tN Bundle.tN "backtrace" "Ljava/lang/Object;",  .lays "java/util/NoSuchElementException" Bundle.tN "backtrace" "Ljava/lang/Object;"] : List Cond)).filter vx_no).filter goodWord
theorem wsE_x2_m : ∀ w ∈ wsE_x2, w ∈ lw_tbl := by decide +kernel
theorem wsE_x2_g : GoodIn lw_tbl wsE_x2 := goodIn_sub wsE_x2_m (by decide +kernel)
def qgwL : List (List Cond) := [wsL_law0_r1, wsL_law0_r2, wsL_law0_r3, wsL_law0_r4, wsL_law0_r5, wsL_law0_r6, wsL_law0_r7, wsL_law0_r8, wsL_law0_r9, wsL_law0_r10, wsL_law0_r11, wsL_law0_r12, wsL_law0_r13, wsL_law0_r14, wsL_law0_r15, wsL_law0_r16, wsL_law0_r17, wsL_law0_r18, wsL_law0_r19, wsL_law0_r20, wsL_law0_r21, wsL_law0_r22, wsL_law0_r23, wsL_law0_r24, wsL_law0_r25, wsL_law0_r26, wsL_law0_r27, wsL_law0_r28, wsL_law0_r29, wsL_law0_r30, wsL_law0_r31, wsL_law0_r32, wsL_law0_r33, wsL_law0_r34, wsL_law0_r35, wsL_law0_r36, wsL_law0_r37, wsL_law0_r38, wsL_law0_r39, wsL_law0_r40, wsL_law0_r41, wsL_law0_r42, wsL_law0_r43, wsL_law0_r44, wsL_law0_r45, wsL_law0_r46, wsL_law0_r47, wsL_law0_r48, wsL_law0_r49, wsL_law0_r50, wsL_law0_r51, wsL_law0_r52, wsL_law0_r53, wsL_law0_r54, wsL_law0_r55, wsL_law0_r56, wsL_law0_r57, wsL_law0_r58, wsL_law0_r59, wsL_law0_r60, wsL_law0_r61, wsX90, wsX100, wsX50, wsX10, wsX40, wsX60, wsX70, wsX80, wsX20, wsX30, wsE_x0, wsE_x1, wsE_x3, wsE_x2]
def wsL_law : List Cond := qgwL.flatten
theorem qgwL_g : ∀ l ∈ qgwL, GoodIn lw_tbl l := List.forall_mem_cons.mpr ⟨wsL_law0_r1_g, List.forall_mem_cons.mpr ⟨wsL_law0_r2_g, List.forall_mem_cons.mpr ⟨wsL_law0_r3_g, List.forall_mem_cons.mpr ⟨wsL_law0_r4_g, List.forall_mem_cons.mpr ⟨wsL_law0_r5_g, List.forall_mem_cons.mpr ⟨wsL_law0_r6_g, List.forall_mem_cons.mpr ⟨wsL_law0_r7_g, List.forall_mem_cons.mpr ⟨wsL_law0_r8_g, List.forall_mem_cons.mpr ⟨wsL_law0_r9_g, List.forall_mem_cons.mpr ⟨wsL_law0_r10_g, List.forall_mem_cons.mpr ⟨wsL_law0_r11_g, List.forall_mem_cons.mpr ⟨wsL_law0_r12_g, List.forall_mem_cons.mpr ⟨wsL_law0_r13_g, List.forall_mem_cons.mpr ⟨wsL_law0_r14_g, List.forall_mem_cons.mpr ⟨wsL_law0_r15_g, List.forall_mem_cons.mpr ⟨wsL_law0_r16_g, List.forall_mem_cons.mpr ⟨wsL_law0_r17_g, List.forall_mem_cons.mpr ⟨wsL_law0_r18_g, List.forall_mem_cons.mpr ⟨wsL_law0_r19_g, List.forall_mem_cons.mpr ⟨wsL_law0_r20_g, List.forall_mem_cons.mpr ⟨wsL_law0_r21_g, List.forall_mem_cons.mpr ⟨wsL_law0_r22_g, List.forall_mem_cons.mpr ⟨wsL_law0_r23_g, List.forall_mem_cons.mpr ⟨wsL_law0_r24_g, List.forall_mem_cons.mpr ⟨wsL_law0_r25_g, List.forall_mem_cons.mpr ⟨wsL_law0_r26_g, List.forall_mem_cons.mpr ⟨wsL_law0_r27_g, List.forall_mem_cons.mpr ⟨wsL_law0_r28_g, List.forall_mem_cons.mpr ⟨wsL_law0_r29_g, List.forall_mem_cons.mpr ⟨wsL_law0_r30_g, List.forall_mem_cons.mpr ⟨wsL_law0_r31_g, List.forall_mem_cons.mpr ⟨wsL_law0_r32_g, List.forall_mem_cons.mpr ⟨wsL_law0_r33_g, List.forall_mem_cons.mpr ⟨wsL_law0_r34_g, List.forall_mem_cons.mpr ⟨wsL_law0_r35_g, List.forall_mem_cons.mpr ⟨wsL_law0_r36_g, List.forall_mem_cons.mpr ⟨wsL_law0_r37_g, List.forall_mem_cons.mpr ⟨wsL_law0_r38_g, List.forall_mem_cons.mpr ⟨wsL_law0_r39_g, List.forall_mem_cons.mpr ⟨wsL_law0_r40_g, List.forall_mem_cons.mpr ⟨wsL_law0_r41_g, List.forall_mem_cons.mpr ⟨wsL_law0_r42_g, List.forall_mem_cons.mpr ⟨wsL_law0_r43_g, List.forall_mem_cons.mpr ⟨wsL_law0_r44_g, List.forall_mem_cons.mpr ⟨wsL_law0_r45_g, List.forall_mem_cons.mpr ⟨wsL_law0_r46_g, List.forall_mem_cons.mpr ⟨wsL_law0_r47_g, List.forall_mem_cons.mpr ⟨wsL_law0_r48_g, List.forall_mem_cons.mpr ⟨wsL_law0_r49_g, List.forall_mem_cons.mpr ⟨wsL_law0_r50_g, List.forall_mem_cons.mpr ⟨wsL_law0_r51_g, List.forall_mem_cons.mpr ⟨wsL_law0_r52_g, List.forall_mem_cons.mpr ⟨wsL_law0_r53_g, List.forall_mem_cons.mpr ⟨wsL_law0_r54_g, List.forall_mem_cons.mpr ⟨wsL_law0_r55_g, List.forall_mem_cons.mpr ⟨wsL_law0_r56_g, List.forall_mem_cons.mpr ⟨wsL_law0_r57_g, List.forall_mem_cons.mpr ⟨wsL_law0_r58_g, List.forall_mem_cons.mpr ⟨wsL_law0_r59_g, List.forall_mem_cons.mpr ⟨wsL_law0_r60_g, List.forall_mem_cons.mpr ⟨wsL_law0_r61_g, List.forall_mem_cons.mpr ⟨wsX90_g, List.forall_mem_cons.mpr ⟨wsX100_g, List.forall_mem_cons.mpr ⟨wsX50_g, List.forall_mem_cons.mpr ⟨wsX10_g, List.forall_mem_cons.mpr ⟨wsX40_g, List.forall_mem_cons.mpr ⟨wsX60_g, List.forall_mem_cons.mpr ⟨wsX70_g, List.forall_mem_cons.mpr ⟨wsX80_g, List.forall_mem_cons.mpr ⟨wsX20_g, List.forall_mem_cons.mpr ⟨wsX30_g, List.forall_mem_cons.mpr ⟨wsE_x0_g, List.forall_mem_cons.mpr ⟨wsE_x1_g, List.forall_mem_cons.mpr ⟨wsE_x3_g, List.forall_mem_cons.mpr ⟨wsE_x2_g, fun _ h => absurd h List.not_mem_nil⟩⟩⟩⟩⟩⟩⟩⟩⟩⟩⟩⟩⟩⟩⟩⟩⟩⟩⟩⟩⟩⟩⟩⟩⟩⟩⟩⟩⟩⟩⟩⟩⟩⟩⟩⟩⟩⟩⟩⟩⟩⟩⟩⟩⟩⟩⟩⟩⟩⟩⟩⟩⟩⟩⟩⟩⟩⟩⟩⟩⟩⟩⟩⟩⟩⟩⟩⟩⟩⟩⟩⟩⟩⟩⟩
theorem wsL_law_g : GoodIn lw_tbl wsL_law := by
  intro w hw
  obtain ⟨l, hl, h⟩ := List.mem_flatten.mp hw
  exact qgwL_g l hl w h
def qpl (q : Nat × Nat) : Option Cond := (qgwL[q.1]?).bind (fun l => l[q.2]?)
theorem gw_set {k : Nat} {l : List Cond} (h : qgwL[k]? = some l) : ∀ w ∈ l, w ∈ wsL_law := fun w hw => List.mem_flatten.mpr ⟨l, List.mem_of_getElem? h, hw⟩
theorem gw_all {ws : List Cond} (ps : List (Nat × Nat)) (hp : ws = ps.filterMap qpl) : ∀ w ∈ ws, w ∈ wsL_law := by
  intro w hw
  rw [hp] at hw
  obtain ⟨q, -, hq⟩ := List.mem_filterMap.mp hw
  unfold qpl at hq
  cases hl : qgwL[q.1]? with
  | none => rw [hl] at hq; cases hq
  | some l => rw [hl] at hq; exact gw_set hl w (List.mem_of_getElem? hq)
theorem inlX9 : ∀ w ∈ wsX90, w ∈ wsL_law := gw_set (k := 61) rfl
theorem inlX10 : ∀ w ∈ wsX100, w ∈ wsL_law := gw_set (k := 62) rfl
theorem inlX5 : ∀ w ∈ wsX50, w ∈ wsL_law := gw_set (k := 63) rfl
theorem inlX1 : ∀ w ∈ wsX10, w ∈ wsL_law := gw_set (k := 64) rfl
theorem inlX4 : ∀ w ∈ wsX40, w ∈ wsL_law := gw_set (k := 65) rfl
theorem inlX6 : ∀ w ∈ wsX60, w ∈ wsL_law := gw_set (k := 66) rfl
theorem inlX7 : ∀ w ∈ wsX70, w ∈ wsL_law := gw_set (k := 67) rfl
theorem inlX8 : ∀ w ∈ wsX80, w ∈ wsL_law := gw_set (k := 68) rfl
theorem inlX2 : ∀ w ∈ wsX20, w ∈ wsL_law := gw_set (k := 69) rfl
theorem inlX3 : ∀ w ∈ wsX30, w ∈ wsL_law := gw_set (k := 70) rfl
theorem inE_x0 : ∀ w ∈ wsE_x0, w ∈ wsL_law := gw_set (k := 71) rfl
theorem inE_x1 : ∀ w ∈ wsE_x1, w ∈ wsL_law := gw_set (k := 72) rfl
theorem inE_x2 : ∀ w ∈ wsE_x2, w ∈ wsL_law := gw_set (k := 74) rfl
theorem inE_x3 : ∀ w ∈ wsE_x3, w ∈ wsL_law := gw_set (k := 73) rfl
