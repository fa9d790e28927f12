/-! the law's start: what the words and the premises give of the tables -/
def qT0 : Jvm.Cond := Jvm.Cond.and given_1 narrow_1
def qtm (i : Nat) : Term := .string (qNm (qTsL.getD i (5, 80, 0)).1) (qTsL.getD i (5, 80, 0)).2.1
def qPos : List Nat := [301, 314, 327, 338, 352, 365, 382, 409, 428, 443]
def qPox : List Nat := [259, 541, 502, 463, 579]
def qPnc : List Nat := [0, 243, 258, 229, 0, 257, 230, 244, 0]
theorem qfl_at {k : Nat} {w : Jvm.Cond} (h : (flatC qT0)[k]? = some w) : w ∈ flatC qT0 := List.mem_of_getElem? h
theorem qpi_str : ∀ i, i < 10 → ((flatC qT0)[qPos.getD i 0]? = some (Cond.exactly (qtm i) "java/lang/String") ∧ (flatC qT0)[qPos.getD i 0 + 1]? = some (Cond.eq (.field (qtm i) "java/lang/String" "coder" "B") (.int 0)) ∧ (flatC qT0)[qPos.getD i 0 + 2]? = some (Cond.arrayOf (.field (qtm i) "java/lang/String" "value" "[B") .byte) ∧ (flatC qT0)[qPos.getD i 0 + 3]? = some (Cond.eq (.length (.field (qtm i) "java/lang/String" "value" "[B")) (.int (Int32.ofNat (qSlen.getD i 0)))) ∧ qSlen.getD i 0 < 2 ^ 31) := by decide +kernel
theorem qp_str (i : Nat) (h : i < 10) : Cond.exactly (qtm i) "java/lang/String" ∈ flatC qT0 ∧ Cond.eq (.field (qtm i) "java/lang/String" "coder" "B") (.int 0) ∈ flatC qT0 ∧ Cond.arrayOf (.field (qtm i) "java/lang/String" "value" "[B") .byte ∈ flatC qT0 ∧ Cond.eq (.length (.field (qtm i) "java/lang/String" "value" "[B")) (.int (Int32.ofNat (qSlen.getD i 0))) ∈ flatC qT0 ∧ qSlen.getD i 0 < 2 ^ 31 := by
  obtain ⟨h1, h2, h3, h4, h5⟩ := qpi_str i h
  exact ⟨qfl_at h1, qfl_at h2, qfl_at h3, qfl_at h4, h5⟩
theorem qpi_el : ∀ i, i < 10 → ∀ j, j < qSlen.getD i 0 → (flatC qT0)[qPos.getD i 0 + 4 + j]? = some (Cond.eq (.elem (.field (qtm i) "java/lang/String" "value" "[B") (.int (Int32.ofNat j))) (.int ((qSbyt.getD i []).getD j 0))) := by decide +kernel
theorem qp_el (i : Nat) (hi : i < 10) (j : Nat) (hj : j < qSlen.getD i 0) : Cond.eq (.elem (.field (qtm i) "java/lang/String" "value" "[B") (.int (Int32.ofNat j))) (.int ((qSbyt.getD i []).getD j 0)) ∈ flatC qT0 := qfl_at (qpi_el i hi j hj)
theorem qp_ts : ∀ e ∈ qTsL, e.2.2 < 10 ∧ qtm e.2.2 = .string (qNm e.1) e.2.1 ∧ Cond.stringRef (qNm e.1) e.2.1 (qTx1.getD e.2.2 "") ∈ lw_tbl := by decide +kernel
theorem qp_txs : ∀ e ∈ qTxL, Cond.stringRef (qNm e.1) e.2.2.1 e.2.2.2.2.2.2 ∈ lw_tbl := by decide +kernel
theorem qpi_tx : ∀ i, i < 5 → (qTxL[i]?).map (fun e => Cond.exactly (.string (qNm e.1) e.2.2.1) "java/lang/String") = (flatC qT0)[qPox.getD i 0]? := by decide +kernel
theorem qTxL_len : qTxL.length = 5 := by decide +kernel
theorem qp_tx (e : Nat × Nat × Nat × Nat × Nat × Bool × String) (he : e ∈ qTxL) : Cond.exactly (.string (qNm e.1) e.2.2.1) "java/lang/String" ∈ flatC qT0 ∧ Cond.stringRef (qNm e.1) e.2.2.1 e.2.2.2.2.2.2 ∈ lw_tbl := by
  obtain ⟨i, hi⟩ := List.getElem?_of_mem he
  have hlt : i < 5 := by rw [← qTxL_len]; exact (List.getElem?_eq_some_iff.mp hi).1
  have h := qpi_tx i hlt
  rw [hi] at h
  exact ⟨qfl_at h.symm, qp_txs e he⟩
theorem qp_nest : ∀ e ∈ qTcL, e.2.2.1 = 3 → Cond.methodLinkNest (qNm e.1) e.2.1 e.2.2.2.1.2.1 "SwitchGraphs" ∈ lw_tbl := by decide +kernel
theorem qp_cast : ∀ k, k < 3 → Cond.castable (qEx k) (qEx k) ∈ lw_tbl := by decide +kernel
theorem qpi_nc : ∀ j, j < 3 → ∀ k, k < 3 → j ≠ k → (flatC qT0)[qPnc.getD (3 * j + k) 0]? = some (Cond.not (Cond.castable (qEx j) (qEx k))) := by decide +kernel
theorem qp_nc (j : Nat) (hj : j < 3) (k : Nat) (hk : k < 3) (h : j ≠ k) : Cond.not (Cond.castable (qEx j) (qEx k)) ∈ flatC qT0 := qfl_at (qpi_nc j hj k hk h)
theorem qp_ao : Cond.arrayOver (.object RX1) ∈ lw_tbl := by decide +kernel
theorem qp_ac : Cond.arrayClass .int ∈ lw_tbl ∧ Cond.arrayClass .byte ∈ lw_tbl ∧ Cond.arrayClass .char ∈ lw_tbl := by decide +kernel
theorem qp_aoa : Cond.arrayOver (.array .int) ∈ lw_tbl := by decide +kernel
theorem qp_cln : Cond.castable "[B" "java/lang/Cloneable" ∈ lw_tbl := by decide +kernel
theorem qp_int : Cond.laysStatic "java/lang/Integer" "DigitOnes" "[B" ∈ lw_tbl ∧ Cond.initialized "java/lang/Integer" ∈ lw_tbl := by decide +kernel
def qtD : Term := .static "java/lang/Integer" "DigitOnes" "[B"
theorem qpi_dg : (flatC qT0)[12]? = some (Cond.arrayOf qtD .byte) ∧ (flatC qT0)[13]? = some (Cond.eq (.length qtD) (.int (Int32.ofNat 100))) := by decide +kernel
theorem qpi_de : ∀ j, j < 100 → (flatC qT0)[14 + j]? = some (Cond.eq (.elem qtD (.int (Int32.ofNat j))) (.int (Int32.ofNat (48 + j % 10)))) := by decide +kernel
/-- a private method that is there is selected, whatever the object's class -/
theorem sel_priv {y : MethodName} {C : String} {s : State} {args : Array Value} {n : Nat} (hy : y.cls ≠ "java/lang/invoke/MethodHandle" ∧ y.cls ≠ "java/lang/invoke/VarHandle") (hins : (Cond.instantiable C n).before args s = true) (hpriv : (Cond.privateMethod y).before args s = true) (hinst : (Cond.instanceMethod y).before args s = true) (hK : ∃ cK kK, s.vm.findClass y.cls = some cK ∧ s.vm.classes[cK]? = some kK ∧ kK.isInterface = false) : (Cond.selects C y y).before args s = true := by
  obtain ⟨c, k, hc, hk, -, hniab, -, -⟩ := Cond.instantiable_spec hins
  have hni : k.isInterface = false := (Bool.or_eq_false_iff.mp hniab).1
  obtain ⟨mk, methM, hnamed, hmethM, -, -⟩ := Cond.instanceMethod_spec hinst
  have hfound : s.methodFound? y.cls y.name y.desc = some mk := State.methodFound?_of_named hnamed hy
  have hsel : selectMethod {} s.vm c mk = .method mk := selectMethod_private hmethM (Cond.privateMethod_at hpriv mk methM hnamed hmethM)
  obtain ⟨cK, kK, k1, k2, k3⟩ := hK
  have hcls : mk.cls = cK := Option.some.inj ((findClass_of_methodNamed hnamed).symm.trans k1)
  simp only [Cond.before, Cond.holds, Cond.value, hc, hfound, hnamed, hsel, hcls, k2]
  simp
  exact k3
theorem qp_lat : Cond.selects RJ4 yJ5_isLatin1_aae02 yJ5_isLatin1_aae02 ∈ lw_tbl := by decide +kernel
theorem qtbl_ts {s : State} {args : Array Value} (hts : ∀ w ∈ lw_tbl, w.before args s = true) : ∀ w ∈ qtbl, w.before args s = true := by
  intro w hw
  rcases List.mem_append.mp hw with h | h
  · exact hts w h
  · have hm := wsPp_m
    have hI := hts _ (hm (Cond.instantiable RJ4 4) (by simp [wsPp]))
    obtain ⟨c0, r0, m0, -, -, j1, -, kK, j2, j3⟩ := Cond.selects_spec (show (Cond.selects RJ4 yJ5_isLatin1_aae02 yJ5_isLatin1_aae02).holds args s none s [] = true from hts _ qp_lat)
    have hK : ∃ cK kK, s.vm.findClass RJ5 = some cK ∧ s.vm.classes[cK]? = some kK ∧ kK.isInterface = false := ⟨m0.cls, kK, findClass_of_methodNamed j1, j2, j3⟩
    unfold wsP at h
    simp only [List.mem_cons, List.not_mem_nil, or_false] at h
    rcases h with rfl | rfl | rfl | rfl
    · exact sel_priv ⟨by decide, by decide⟩ hI (hts _ (hm _ (by simp [wsPp]))) (hts _ (hm _ (by simp [wsPp]))) hK
    · exact sel_priv ⟨by decide, by decide⟩ hI (hts _ (hm _ (by simp [wsPp]))) (hts _ (hm _ (by simp [wsPp]))) hK
    · exact sel_priv ⟨by decide, by decide⟩ hI (hts _ (hm _ (by simp [wsPp]))) (hts _ (hm _ (by simp [wsPp]))) hK
    · exact sel_priv ⟨by decide, by decide⟩ hI (hts _ (hm _ (by simp [wsPp]))) (hts _ (hm _ (by simp [wsPp]))) hK
def qNs : List Nat := [3, 5, 2, 3, 13, 5, 2, 3, 12, 5, 4, 4]
theorem qp_inst : ∀ ci, ci < 12 → Cond.instantiable (qKs.getD ci (RX1, TX1, 3)).1 (qNs.getD ci 0) ∈ lw_tbl := by decide +kernel
theorem qp_st : (Cond.laysStatic Bundle.tN "UNASSIGNED_STACK" Bundle.steD ∈ lw_tbl ∧ Cond.laysStatic Bundle.tN "SUPPRESSED_SENTINEL" Bundle.listD ∈ lw_tbl ∧ Cond.laysStatic "java/lang/String" "COMPACT_STRINGS" "Z" ∈ lw_tbl ∧ Cond.laysStatic "jdk/internal/util/Preconditions" "SIOOBE_FORMATTER" "Ljava/util/function/BiFunction;" ∈ lw_tbl ∧ Cond.initialized Bundle.tN ∈ lw_tbl ∧ Cond.initialized "java/lang/String" ∈ lw_tbl ∧ Cond.initialized "jdk/internal/util/Preconditions" ∈ lw_tbl) ∧ Cond.isRef (.static Bundle.tN "UNASSIGNED_STACK" Bundle.steD) ∈ flatC qT0 ∧ Cond.isRef (.static Bundle.tN "SUPPRESSED_SENTINEL" Bundle.listD) ∈ flatC qT0 ∧ Cond.eq (.static "java/lang/String" "COMPACT_STRINGS" "Z") (.int 1) ∈ flatC qT0 ∧ Cond.isRef (.static "jdk/internal/util/Preconditions" "SIOOBE_FORMATTER" "Ljava/util/function/BiFunction;") ∈ flatC qT0 := by decide +kernel
section QST
variable {s : State} {b L : Nat} {xs : Nat → Int32}
theorem qst_cl (hts : ∀ w ∈ lw_tbl, w.before #[Value.ref b] s = true) : ∃ (dC : Nat → ClassId) (dI : Nat → Nat → Nat), ∀ (k : Nat) (q : vw_C), qKs[k]? = some q → u_Kn s q.1 q.2.1 q.2.2 (dC k) (dI k) := by
  have h0 : ∀ k : Nat, ∃ z : ClassId × (Nat → Nat), ∀ q : vw_C, qKs[k]? = some q → u_Kn s q.1 q.2.1 q.2.2 z.1 z.2 := by
    intro k
    cases hq : qKs[k]? with
    | none => exact ⟨(default, fun _ => 0), fun q h => by cases h⟩
    | some q =>
      have hk : k < 12 := (List.getElem?_eq_some_iff.mp hq).1
      have hi := hts _ (qp_inst k hk)
      rw [qgetD hq] at hi
      obtain ⟨cC, iS, hKn⟩ := u_known (ws := qtbl) (T := q.2.1) (N := q.2.2) (qtbl_ts hts) (fun w hw => (wsL_law_g w ((qcl_in hq).1 w hw)).1) hi
      exact ⟨(cC, iS), fun q' h => by cases h; exact hKn⟩
  obtain ⟨f, hf⟩ := Classical.axiomOfChoice h0
  exact ⟨fun k => (f k).1, fun k => (f k).2, fun k q hq => hf k q hq⟩
theorem qst_arr {ty : FieldType} (h : (Cond.arrayClass ty).before #[Value.ref b] s = true) : ∃ c : ClassId, ArrOfT s c ty ∧ s.vm.findClass ("[" ++ ty.toString) = some c := by
  obtain ⟨c, k, comp, h1, h2, h3⟩ := Cond.arrayClass_spec (show (Cond.arrayClass ty).holds #[Value.ref b] s none s [] = true from h)
  exact ⟨c, fun N z => ⟨(fun k h => by cases h), k, h2, comp, h3⟩, h1⟩
theorem qst_ty (hts : ∀ w ∈ lw_tbl, w.before #[Value.ref b] s = true) : ∃ aC : Nat → ClassId, ∀ (k : Nat) (q : ClassId × FieldType), ([(aC 0, .int), (aC 1, .byte), (aC 2, .char), (aC 0, .int), (aC 4, .array .int), (aC 5, .object RX1)] : List (ClassId × FieldType))[k]? = some q → ArrOfT s q.1 q.2 ∧ va_RA s q.1 q.2 := by
  obtain ⟨a0, a1, a2⟩ := qp_ac
  obtain ⟨c0, x0, y0⟩ := qst_arr (hts _ a0)
  obtain ⟨c1, x1, y1⟩ := qst_arr (hts _ a1)
  obtain ⟨c2, x2, y2⟩ := qst_arr (hts _ a2)
  obtain ⟨comp, c5, k5, z1, -, z3, z4, z5⟩ := Cond.arrayOver_spec (show (Cond.arrayOver (.object RX1)).holds #[Value.ref b] s none s [] = true from hts _ qp_ao)
  obtain ⟨comp4, c4, k4, v1, v3, v4, v5⟩ := Cond.arrayOver_specA (show (Cond.arrayOver (.array .int)).holds #[Value.ref b] s none s [] = true from hts _ qp_aoa)
  refine ⟨fun t => match t with | 0 => c0 | 1 => c1 | 2 => c2 | 3 => c0 | 4 => c4 | _ => c5, fun k q hk => ?_⟩
  match k, hk with
  | 0, hk => cases hk; exact ⟨x0, y0⟩
  | 1, hk => cases hk; exact ⟨x1, y1⟩
  | 2, hk => cases hk; exact ⟨x2, y2⟩
  | 3, hk => cases hk; exact ⟨x0, y0⟩
  | 4, hk => cases hk; exact ⟨fun N z => ⟨(fun k h => by cases h), k4, v3, comp4, v4⟩, v5⟩
  | 5, hk => cases hk; exact ⟨fun N z => ⟨(fun k h => by cases h), k5, z3, comp, z4⟩, k5, comp, z3, z4, z1, z5⟩
  | k + 6, hk => simp at hk
theorem qst_dig {A : Nat → Prop} (hts : ∀ w ∈ lw_tbl, w.before #[Value.ref b] s = true) (hgv : qT0.before #[Value.ref b] s = true) (hA : ∀ a : Nat, a < s.heap.size → ¬ A a) : ∃ td : Nat, va_Z "java/lang/Integer" "DigitOnes" "[B" (.ref td) A s s.heap ∧ va_T .byte td 100 (fun j => .int (Int32.ofNat (48 + j % 10))) A s s.heap := by
  have hf := flat_of_before qT0 hgv
  obtain ⟨p1, p2⟩ := qpi_dg
  obtain ⟨t, ht, hT⟩ := va_Tof (tm := qtD) (N := 100) (f := fun j => .int (Int32.ofNat (48 + j % 10))) (A := A) (by decide) (hf _ (qfl_at p1)) (va_eqt (hf _ (qfl_at p2))) (fun j hj => va_eqt (hf _ (qfl_at (qpi_de j hj)))) hA
  exact ⟨t, va_Zof (hts _ qp_int.1) (hts _ qp_int.2) ht hA, hT⟩
theorem qst_str {A : Nat → Prop} (hgv : qT0.before #[Value.ref b] s = true) (hA : ∀ a : Nat, a < s.heap.size → ¬ A a) : ∃ adK adV : Nat → Nat, ∀ i, i < 10 → (qtm i).eval #[Value.ref b] s none [] s = some (.ref (adK i)) ∧ va_O "java/lang/String" (adK i) A s s.heap ∧ va_OF "java/lang/String" "coder" "B" (.int 0) (adK i) A s s.heap ∧ va_OF "java/lang/String" "value" "[B" (.ref (adV i)) (adK i) A s s.heap ∧ va_T .byte (adV i) (qSlen.getD i 0) (fun j => .int ((qSbyt.getD i []).getD j 0)) A s s.heap := by
  have hf := flat_of_before qT0 hgv
  have h0 : ∀ i : Nat, ∃ q : Nat × Nat, i < 10 → (qtm i).eval #[Value.ref b] s none [] s = some (.ref q.1) ∧ va_O "java/lang/String" q.1 A s s.heap ∧ va_OF "java/lang/String" "coder" "B" (.int 0) q.1 A s s.heap ∧ va_OF "java/lang/String" "value" "[B" (.ref q.2) q.1 A s s.heap ∧ va_T .byte q.2 (qSlen.getD i 0) (fun j => .int ((qSbyt.getD i []).getD j 0)) A s s.heap := by
    intro i
    by_cases hi : i < 10
    · obtain ⟨p1, p2, p3, p4, p5⟩ := qp_str i hi
      obtain ⟨a, c, cA, kA, q1, q2, q3, q4, q5, q6, -⟩ := Cond.exactly_spec (args := #[Value.ref b]) (first := s) (o := none) (s := s) (idx := []) (t := qtm i) (cls := "java/lang/String") (hf _ p1)
      obtain ⟨t, ht, hT⟩ := va_Tof (f := fun j => .int ((qSbyt.getD i []).getD j 0)) (A := A) p5 (hf _ p3) (va_eqt (hf _ p4)) (fun j hj => va_eqt (hf _ (qp_el i hi j hj))) hA
      exact ⟨(a, t), fun _ => ⟨q1, ⟨cA, q3, q5, by rw [q6]; exact q2, hA a (Array.getElem?_eq_some_iff.mp q3).1⟩, vk_OFof q1 (va_eqt (hf _ p2)) hA, vk_OFof q1 ht hA, hT⟩⟩
    · exact ⟨(0, 0), fun h => absurd h hi⟩
  obtain ⟨ad, had⟩ := Classical.axiomOfChoice h0
  exact ⟨fun i => (ad i).1, fun i => (ad i).2, had⟩
theorem qstart (hts : ∀ w ∈ lw_tbl, w.before #[Value.ref b] s = true) (hgv : qT0.before #[Value.ref b] s = true) (hX : va_X b L xs s s.heap) : ∃ G : qG, G.1 = s.heap.size ∧ G.2.1 1000 = b ∧ G.2.2.2.2.2.1 = s.heap ∧ G.2.2.2.2.2.2.1 = L ∧ G.2.2.2.2.2.2.2 = xs ∧ qTB G s := by
  have hf := flat_of_before qT0 hgv
  have hA : ∀ a : Nat, a < s.heap.size → ¬ (fun q : Nat => s.heap.size ≤ q) a := fun a h1 h2 => absurd h1 (Nat.not_lt.mpr h2)
  obtain ⟨dC, dI, hcl⟩ := qst_cl hts
  obtain ⟨aC, hty⟩ := qst_ty hts
  obtain ⟨adK, adV, hstr⟩ := qst_str hgv hA
  obtain ⟨td, hd1, hd2⟩ := qst_dig hts hgv hA
  obtain ⟨⟨s1, s2, s3, s4, s5, s6, s7⟩, s8, s9, s10, s11⟩ := qp_st
  refine ⟨(s.heap.size, fun i => if i = 1000 then b else if i = 300 then td else if 100 ≤ i then adV (i - 100) else adK i, adV, (dC, dI), aC, s.heap, L, xs), rfl, rfl, rfl, rfl, rfl, ⟨hcl, hty⟩, fun e he h3 => va_Nw.of (by rfl) (hts _ (qp_nest e he h3)), va_AO.of (hts _ qp_ao), fun e he => ?_, fun k hk => va_Nw.of (by rfl) (hts _ (qp_cast k hk)), fun j k hj hk hne => va_Nc.of (hf _ (qp_nc j hj k hk hne)), fun e he => ?_, vx_Zqof (hts _ s1) (hts _ s5) (hf _ s8) hA, vx_Zqof (hts _ s2) (hts _ s5) (hf _ s9) hA, fun i hi => ?_, ?_, rfl, va_Zof (hts _ s3) (hts _ s6) (va_eqt (hf _ s10)) hA, va_Zqof (hts _ s4) (hts _ s7) (hf _ s11) hA, va_AOA.of (hts _ qp_aoa), va_Nw.of (by rfl) (hts _ qp_cln), hd1, hd2⟩
  · obtain ⟨p1, p2⟩ := qp_tx e he
    obtain ⟨a, c, cA, kA, q1, -⟩ := Cond.exactly_spec (args := #[Value.ref b]) (first := s) (o := none) (s := s) (idx := []) (cls := "java/lang/String") (hf _ p1)
    exact ⟨a, vk_R.of (hts _ p2) q1⟩
  · obtain ⟨p1, p2, p3⟩ := qp_ts e he
    have q1 := (hstr _ p1).1
    rw [p2] at q1
    have h : vk_R (qNm e.1) e.2.1 (qTx1.getD e.2.2 "") (adK e.2.2) s := vk_R.of (hts _ p3) q1
    show vk_R _ _ _ (if e.2.2 = 1000 then b else if e.2.2 = 300 then td else if 100 ≤ e.2.2 then adV (e.2.2 - 100) else adK e.2.2) s
    rw [if_neg (by omega), if_neg (by omega), if_neg (by omega)]
    exact h
  · obtain ⟨-, h⟩ := hstr i hi
    unfold qSfact
    show va_O "java/lang/String" (if i = 1000 then b else if i = 300 then td else if 100 ≤ i then adV (i - 100) else adK i) _ s s.heap ∧ va_OF "java/lang/String" "coder" "B" (.int 0) (if i = 1000 then b else if i = 300 then td else if 100 ≤ i then adV (i - 100) else adK i) _ s s.heap ∧ va_OF "java/lang/String" "value" "[B" (.ref (if 100 + i = 1000 then b else if 100 + i = 300 then td else if 100 ≤ 100 + i then adV (100 + i - 100) else adK (100 + i))) (if i = 1000 then b else if i = 300 then td else if 100 ≤ i then adV (i - 100) else adK i) _ s s.heap ∧ va_T .byte (if 100 + i = 1000 then b else if 100 + i = 300 then td else if 100 ≤ 100 + i then adV (100 + i - 100) else adK (100 + i)) _ _ _ s s.heap
    have e1 : (if i = 1000 then b else if i = 300 then td else if 100 ≤ i then adV (i - 100) else adK i) = adK i := by
      rw [if_neg (by omega), if_neg (by omega), if_neg (by omega)]
    have e2 : (if 100 + i = 1000 then b else if 100 + i = 300 then td else if 100 ≤ 100 + i then adV (100 + i - 100) else adK (100 + i)) = adV i := by
      rw [if_neg (by omega), if_neg (by omega), if_pos (by omega), show 100 + i - 100 = i by omega]
    rw [e1, e2]
    exact h
  · exact hX
end QST
