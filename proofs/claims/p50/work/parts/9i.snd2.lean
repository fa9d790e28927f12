theorem qTcL_ok : qTcL.all (fun e => decide (5 ≤ e.2.2.1 ∧ e.2.2.1 ≠ 10 ∧ e.2.2.1 ≠ 11 ∧ e.2.2.1 ≠ 12 ∧ e.2.2.1 ≠ 15 ∧ e.2.2.1 ≠ 16) || (decide (e.2.2.2.1.2.1.cls = qNm e.2.2.2.1.1) && plainName e.2.2.2.1.2.1.cls && decide (e.2.2.2.1.2.1.cls ≠ "java/lang/invoke/MethodHandle") && decide (e.2.2.2.1.2.1.cls ≠ "java/lang/invoke/VarHandle") && decide ((parseMethodDescriptor e.2.2.2.1.2.1.desc).map (fun d => d.parameters.length) = some e.2.2.2.2) && decide (e.2.2.2.1.2.2.2.1 ≤ 40) && ((e.2.2.1 == 4 || e.2.2.1 == 15) == !(e.2.2.2.1.2.2.2.2.2.isEmpty)) && (decide (e.2.2.1 ≠ 2 ∧ e.2.2.1 ≠ 3 ∧ e.2.2.1 ≠ 12) || (e.2.2.2.1.2.1.name == "<init>" && e.2.2.2.1.2.2.2.2.1.isNone)))) = true := by decide +kernel
theorem qcallee {c i mo n : Nat} {C : qM} (h : (c, i, mo, C, n) ∈ qTcL) (hmo : mo < 5 ∨ mo = 10 ∨ mo = 11 ∨ mo = 12 ∨ mo = 15 ∨ mo = 16) : C.2.1.cls = qNm C.1 ∧ plainName C.2.1.cls = true ∧ (C.2.1.cls ≠ "java/lang/invoke/MethodHandle" ∧ C.2.1.cls ≠ "java/lang/invoke/VarHandle") ∧ (parseMethodDescriptor C.2.1.desc).map (fun d => d.parameters.length) = some n ∧ C.2.2.2.1 ≤ 40 ∧ (mo = 4 ∨ mo = 15 ↔ C.2.2.2.2.2 ≠ []) ∧ (mo = 2 ∨ mo = 3 ∨ mo = 12 → C.2.1.name = "<init>" ∧ C.2.2.2.2.1 = none) := by
  have h1 := List.all_eq_true.mp qTcL_ok _ h
  simp only [Bool.or_eq_true, Bool.and_eq_true, decide_eq_true_eq, beq_iff_eq] at h1
  rcases h1 with h1 | h1
  · omega
  · obtain ⟨⟨⟨⟨⟨⟨⟨a1, a2⟩, a3⟩, a4⟩, a5⟩, a6⟩, a7⟩, a8⟩ := h1
    refine ⟨a1, a2, ⟨a3, a4⟩, a5, a6, ?_, fun hm => ?_⟩
    · cases hh : C.2.2.2.2.2 with
      | nil => rw [hh] at a7; simp at a7; simp [a7]
      | cons x y => rw [hh] at a7; simp at a7; simpa using a7
    · rcases a8 with a8 | a8
      · omega
      · exact ⟨a8.1, Option.isNone_iff_eq_none.mp a8.2⟩
def qcw (C : qM) : Jvm.Cond := match C.2.2.2.2.2 with
  | [] => .code C.2.1 C.2.2.1 C.2.2.2.1 C.2.2.2.2.1
  | h :: t => .codeWith C.2.1 C.2.2.1 C.2.2.2.1 C.2.2.2.2.1 (h :: t)
def qws (C : qM) : List Jvm.Cond := qcw C :: wsL_law
def qroom (d mc ms : Nat) : Room := { frames := d + 8, cells := mc, slots := ms, locals := 60 * d + 200 }
def qEnd (G : qG) (M : qM) (p : Program) (l : Launch) (e : Env) (R : Room) (s0 : State) (m : MethodId) (args : Array Value) (below : List Frame) (meth : Method) (c : Code) (o : qO) (s' : qSt) (cE sE : Nat) (Q : State → Prop) : Prop :=
  (∀ (v : Option Value) (pc : Nat) (ls : Array Slot) (H2 : Heap) (locs2 : List Loc) (cells2 slots2 : Nat), o = .inl v → qRetAt M pc v → qRel G s' H2 → s0.heap.size ≤ H2.size → (∀ z ∈ locs2, G.1 ≤ z.base) → cells2 ≤ cE → slots2 ≤ sE → W p l e R s0 m args below meth c H2 locs2 cells2 slots2 Q (F0 m pc ls (v.toList.map (qV G)))) ∧
  (∀ (k pc : Nat) (ls : Array Slot) (rest : List Value) (sB : qSt) (H2 : Heap) (locs2 : List Loc) (cells2 slots2 : Nat), o = .inr k → s' = qthr sB → qSiteAt M pc k → ls.size = M.2.2.2.1 → (rest.map fun v => v.category).sum ≤ 8 → qRel G sB H2 → s0.heap.size ≤ H2.size → (∀ z ∈ locs2, G.1 ≤ z.base) → cells2 + 1 ≤ cE → slots2 + 6 ≤ sE → W p l e R s0 m args below meth c H2 locs2 cells2 slots2 Q (F0 m pc ls rest)) ∧
  (∀ (k pc : Nat) (ls : Array Slot) (rest : List Value) (H2 : Heap) (locs2 : List Loc) (cells2 slots2 : Nat) (q9 : Addr) (ce : Cell), o = .inr k → M.2.2.2.2.2 = [] → qRel G s' H2 → s0.heap.size ≤ H2.size → (∀ z ∈ locs2, G.1 ≤ z.base) → cells2 ≤ cE → slots2 ≤ sE → H2[q9]? = some ce → ce.vm = .none → s0.vm.findClass (qEx k) = some ce.cls → k < 3 → vx_W p l e R s0 m args below meth c H2 locs2 cells2 slots2 Q (F0 m pc ls rest) q9)
def qSndAt (l : Launch) (G : qG) (n : Nat) : Prop := ∀ (d : Nat) (M : qM) (pc : Nat) (L : qLo) (st : List Value) (s : qSt) (o : qO) (s' : qSt), qExec n d M pc L st s = some (o, s') →
  ∀ (p : Program) (e : Env) (R : Room) (s0 : State) (m : MethodId) (args : Array Value) (below : List Frame) (meth : Method) (c : Code) (H : Heap) (locs : List Loc) (cells slots : Nat) (Q : State → Prop) (ls : Array Slot) (cE sE : Nat),
    qCx G M p s0 m args meth c → c.exceptionTable.toList = tableOf M.2.2.2.2.2 → d + 8 ≤ R.frames → 60 * d + 200 ≤ R.locals → qLs G ls M.2.2.2.1 L → qRel G s H → s0.heap.size ≤ H.size → (∀ z ∈ locs, G.1 ≤ z.base) →
    cells + (s'.1 + s'.2.1) ≤ cE + (s.1 + s.2.1) → slots + s'.2.2.1 ≤ sE + s.2.2.1 → cE ≤ R.cells → sE ≤ R.slots → qEnd G M p l e R s0 m args below meth c o s' cE sE Q →
    W p l e R s0 m args below meth c H locs cells slots Q (F0 m pc ls (st.map (qV G)))
theorem qTxL_ok : qTxL.all (fun e => decide (e.1 = 9) && (decide (e.2.2.2.2.1 = 0 ∧ e.2.1 = 188 ∧ e.2.2.2.1 = 192) || decide (e.2.2.2.2.1 = 1 ∧ e.2.1 = 90 ∧ e.2.2.2.1 = 94) || decide (e.2.2.2.2.1 = 2 ∧ e.2.1 = 240 ∧ e.2.2.2.1 = 244))) = true := by decide +kernel
theorem qTx_ok {c ik js jc k : Nat} {w : Bool} (h : qTx c ik js jc w = some k) : ∃ tx, (c, ik, js, jc, k, w, tx) ∈ qTxL := by
  unfold qTx at h
  cases hf : qTxL.find? (fun e => e.1 == c && e.2.1 == ik && e.2.2.1 == js && e.2.2.2.1 == jc && e.2.2.2.2.2.1 == w) with
  | none => rw [hf] at h; cases h
  | some e =>
    rw [hf] at h
    have hm := List.mem_of_find?_eq_some hf
    have hp := List.find?_some hf
    simp only [Bool.and_eq_true, beq_iff_eq] at hp
    have h2 : e.2.2.2.2.1 = k := Option.some.inj h
    obtain ⟨e1, e2, e3, e4, e5, e6, e7⟩ := e
    dsimp only at hp h2
    obtain ⟨⟨⟨⟨rfl, rfl⟩, rfl⟩, rfl⟩, rfl⟩ := hp
    subst h2
    exact ⟨e7, hm⟩
theorem qnames_fit : ∀ n ∈ (["java/lang/RuntimeException", "java/lang/Exception"] : List String), Bundle.fit n = true := by decide +kernel
theorem qdeclares {y : MethodName} {b : ByteArray} {n : Nat} {r : Option FieldType} {args : Array Value} {s : State} (h1 : (Cond.instanceMethod y).before args s = true) (h2 : (Cond.code y b n r).before args s = true) : (Cond.declares y).before args s = true := by
  obtain ⟨m, meth, hn, hm, hst, -⟩ := Cond.instanceMethod_spec (show (Cond.instanceMethod y).holds args s none s [] = true from h1)
  obtain ⟨meth', c, hm', -, -, -, -, -, -, hsig⟩ := Cond.code_spec hn (show (Cond.code y b n r).holds args s none s [] = true from h2)
  cases Option.some.inj (hm.symm.trans hm')
  show (Cond.declares y).holds args s none s [] = true
  simp [Cond.holds, Cond.value, hn, hm, hst, hsig]
def qatB (X : String) : List Jvm.Cond := [.declares (Bundle.initS "java/lang/RuntimeException"), .declares (Bundle.initS "java/lang/Exception"), .declares (Bundle.initS Bundle.tN), .castable X X]
theorem qatD : (decide (Cond.instanceMethod (Bundle.initS "java/lang/RuntimeException") ∈ (vx_atS RX9 192 (qEx 0) ["java/lang/RuntimeException", "java/lang/Exception"]).filter goodWord) && decide (Cond.instanceMethod (Bundle.initS "java/lang/Exception") ∈ (vx_atS RX9 192 (qEx 0) ["java/lang/RuntimeException", "java/lang/Exception"]).filter goodWord) && decide (Cond.instanceMethod (Bundle.initS Bundle.tN) ∈ (vx_atS RX9 192 (qEx 0) ["java/lang/RuntimeException", "java/lang/Exception"]).filter goodWord) && decide (Cond.code (Bundle.initS "java/lang/RuntimeException") Bundle.six 2 none ∈ (vx_atS RX9 192 (qEx 0) ["java/lang/RuntimeException", "java/lang/Exception"]).filter goodWord) && decide (Cond.code (Bundle.initS "java/lang/Exception") Bundle.six 2 none ∈ (vx_atS RX9 192 (qEx 0) ["java/lang/RuntimeException", "java/lang/Exception"]).filter goodWord) && decide (Cond.code (Bundle.initS Bundle.tN) LibCode.Throwable.InitS.code 2 none ∈ (vx_atS RX9 192 (qEx 0) ["java/lang/RuntimeException", "java/lang/Exception"]).filter goodWord)) = true := by decide +kernel
theorem qatB_ok {X : String} {args : Array Value} {s0 : State} (hts : ∀ w ∈ wsL_law, w.before args s0 = true) (h3 : va_Nw (.castable X X) s0) : ∀ w ∈ qatB X, w.before args s0 = true := by
  have hD := qatD
  simp only [Bool.and_eq_true, decide_eq_true_eq] at hD
  obtain ⟨⟨⟨⟨⟨a1, a2⟩, a3⟩, a4⟩, a5⟩, a6⟩ := hD
  intro w hw
  rcases List.mem_cons.mp hw with rfl | hw
  · exact qdeclares (hts _ (inE_x1 _ a1)) (hts _ (inE_x1 _ a4))
  rcases List.mem_cons.mp hw with rfl | hw
  · exact qdeclares (hts _ (inE_x1 _ a2)) (hts _ (inE_x1 _ a5))
  rcases List.mem_cons.mp hw with rfl | hw
  · exact qdeclares (hts _ (inE_x1 _ a3)) (hts _ (inE_x1 _ a6))
  rw [List.mem_singleton.mp hw]
  exact va_Nw.use (by rfl) h3
theorem qat_of {X : String} {jc : Nat} {args : Array Value} {s0 : State} (h1 : ∀ w ∈ (vx_atS RX9 jc X ["java/lang/RuntimeException", "java/lang/Exception"]).filter goodWord, w.before args s0 = true) (h2 : ∀ w ∈ (vx_atS RX9 jc X ["java/lang/RuntimeException", "java/lang/Exception"]).filter (fun w => !goodWord w), w ∈ qatB X) (hts : ∀ w ∈ wsL_law, w.before args s0 = true) (h3 : va_Nw (.castable X X) s0) : ∀ w ∈ vx_atS RX9 jc X ["java/lang/RuntimeException", "java/lang/Exception"], w.before args s0 = true :=
  vx_hat h1 h2 (qatB_ok hts h3)
theorem qat0 {G : qG} {args : Array Value} {s0 : State} (hts : ∀ w ∈ wsL_law, w.before args s0 = true) (hTB : qTB G s0) : ∀ w ∈ vx_atS RX9 192 (qEx 0) ["java/lang/RuntimeException", "java/lang/Exception"], w.before args s0 = true :=
  qat_of (fun w hw => hts w (inE_x1 w hw)) (by decide +kernel) hts (hTB.2.2.2.2.1 0 (by decide))
theorem qat1 {G : qG} {args : Array Value} {s0 : State} (hts : ∀ w ∈ wsL_law, w.before args s0 = true) (hTB : qTB G s0) : ∀ w ∈ vx_atS RX9 94 (qEx 1) ["java/lang/RuntimeException", "java/lang/Exception"], w.before args s0 = true :=
  qat_of (fun w hw => hts w (inE_x0 w hw)) (by decide +kernel) hts (hTB.2.2.2.2.1 1 (by decide))
theorem qot0 : ∀ w ∈ Cond.classLink (qNm 9) 188 (qEx 0) :: Cond.initialized (qEx 0) :: vx_atS (qNm 9) 192 (qEx 0) ["java/lang/RuntimeException", "java/lang/Exception"], vx_ot w = true := by decide +kernel
theorem qot1 : ∀ w ∈ Cond.classLink (qNm 9) 90 (qEx 1) :: Cond.initialized (qEx 1) :: vx_atS (qNm 9) 94 (qEx 1) ["java/lang/RuntimeException", "java/lang/Exception"], vx_ot w = true := by decide +kernel
theorem nse0 : decode nseB 0 = .ok (.aload_n 0, 1) := by decide +kernel
theorem nse1 : decode nseB 1 = .ok (.aload_n 1, 1) := by decide +kernel
theorem nse2 : decode nseB 2 = .ok (.invokespecial 13, 3) := by decide +kernel
theorem nse5 : decode nseB 5 = .ok (.return_, 1) := by decide +kernel
theorem qat2 {G : qG} {args : Array Value} {s0 : State} (hts : ∀ w ∈ wsL_law, w.before args s0 = true) (hTB : qTB G s0) : ∀ w ∈ (qownX (qNm 9) 244 (qEx 2) 13 nseB "java/lang/RuntimeException" ["java/lang/Exception"]).filter vx_no, w.before args s0 = true :=
  vx_hat (B := qatB (qEx 2)) (fun w hw => hts w (inE_x2 w hw)) (by decide +kernel) (qatB_ok hts (hTB.2.2.2.2.1 2 (by decide)))
theorem qot2 : ∀ w ∈ Cond.classLink (qNm 9) 240 (qEx 2) :: Cond.initialized (qEx 2) :: (qownX (qNm 9) 244 (qEx 2) 13 nseB "java/lang/RuntimeException" ["java/lang/Exception"]).filter vx_no, vx_ot w = true := by decide +kernel
/-- NoSuchElementException: its constructor passes its text on by another index -/
theorem qthrow2 {l : Launch} {G : qG} (hst : l.stackTraces = false) {M : qM} {p : Program} {e : Env} {R : Room} {s0 : State} {m : MethodId} {args : Array Value} {below : List Frame} {meth : Method} {c : Code} {H : Heap} {locs : List Loc} {cells slots mc ms pc js sa : Nat} {tx : String} {ls : Array Slot} {rest : List Value} {sB : qSt}
    (hC : qCx G M p s0 m args meth c) (hown : s0.vm.findClass (qNm 9) = some m.cls) (hno : ∀ x ∈ c.exceptionTable.toList, False) (hfr : 8 ≤ R.frames) (hlo : 200 ≤ R.locals) (hlsc : ls.size = c.maxLocals) (hrest : (rest.map fun v => v.category).sum ≤ 8) (hR : qRel G sB H) (hz : s0.heap.size ≤ H.size) (hlc : ∀ z ∈ locs, G.1 ≤ z.base) (hc : cells + 1 ≤ mc) (hs : slots + 6 ≤ ms) (hmc : mc ≤ R.cells) (hms : ms ≤ R.slots)
    (hcl : (Cond.classLink (qNm 9) 240 (qEx 2)).before args s0 = true) (hin : (Cond.initialized (qEx 2)).before args s0 = true) (hstr : vk_R (qNm 9) js tx sa s0) (e0 : decode M.2.2.1 pc = .ok (.new 240, 3)) (e3 : decode M.2.2.1 (pc + 3) = .ok (.dup, 1))
    (hw : (decode M.2.2.1 (pc + 4) = .ok (.ldc js, 2) ∧ decode M.2.2.1 (pc + 6) = .ok (.invokespecial 244, 3) ∧ decode M.2.2.1 (pc + 9) = .ok (.athrow, 1)) ∨ (decode M.2.2.1 (pc + 4) = .ok (.ldc_w js, 3) ∧ decode M.2.2.1 (pc + 7) = .ok (.invokespecial 244, 3) ∧ decode M.2.2.1 (pc + 10) = .ok (.athrow, 1))) :
    W p l e R s0 m args below meth c H locs cells slots (vx_MQ below (qQc G (.inr 2) (qthr sB)) (qXC G (.inr 2) (qthr sB)) args s0 mc ms (qA G)) (F0 m pc ls rest) := by
  obtain ⟨hx, hb, hml, hnm, hown0, hts, hret, hlk, hTB, hH0⟩ := hC
  have hU : vx_Zq Bundle.tN "UNASSIGNED_STACK" Bundle.steD (qA G) s0 s0.heap := hTB.2.2.2.2.2.2.2.1.kept (fun a _ hA => hH0 a (Nat.not_le.mp hA))
  have hN : vx_Zq Bundle.tN "SUPPRESSED_SENTINEL" Bundle.listD (qA G) s0 s0.heap := hTB.2.2.2.2.2.2.2.2.1.kept (fun a _ hA => hH0 a (Nat.not_le.mp hA))
  have hS : va_S (qA G) s0.heap H locs := qRel_S hR hH0 hz hlc
  have hfits : ∀ n ∈ (["java/lang/Exception"] : List String), Bundle.fit n = true := by decide +kernel
  rcases hw with ⟨e4, e6, e9⟩ | ⟨e4, e7, e10⟩
  · refine qmakeX hx hb hst nse0 nse1 nse2 nse5 hown (by decide +kernel) (by decide +kernel) hfits hcl hin hstr (qat2 hts hTB) qot2 hU hN hS hlsc e0 e3 e4 e6 (by show 1 + 4 < _; omega) (by show _ + (13 * (1 + 2) + 43) ≤ _; omega) (by omega) (by omega) (fun H1 ce hce hcv hcc h1 h2 => ?_)
    refine vx_athrow hx hb e9 ?_
    exact vx_out (E := qEx 2) (ce := ce) (fun x hx => (hno x hx).elim) hlk hce hcv hcc (fun t ht _ => ⟨2, rfl, by decide, rfl, by rw [ht]; exact qRel_thr hR h1 h2, by rw [ht]; exact Nat.le_trans hz h1⟩) hlc hc hs
  · refine qmakeXW hx hb hst nse0 nse1 nse2 nse5 hown (by decide +kernel) (by decide +kernel) hfits hcl hin hstr (qat2 hts hTB) qot2 hU hN hS hlsc e0 e3 e4 e7 (by show 1 + 4 < _; omega) (by show _ + (13 * (1 + 2) + 43) ≤ _; omega) (by omega) (by omega) (fun H1 ce hce hcv hcc h1 h2 => ?_)
    refine vx_athrow hx hb e10 ?_
    exact vx_out (E := qEx 2) (ce := ce) (fun x hx => (hno x hx).elim) hlk hce hcv hcc (fun t ht _ => ⟨2, rfl, by decide, rfl, by rw [ht]; exact qRel_thr hR h1 h2, by rw [ht]; exact Nat.le_trans hz h1⟩) hlc hc hs
/-- a throw of the class's own ends its method -/
theorem qthrow {l : Launch} {G : qG} (hst : l.stackTraces = false) {M : qM} {p : Program} {e : Env} {R : Room} {s0 : State} {m : MethodId} {args : Array Value} {below : List Frame} {meth : Method} {c : Code} {H : Heap} {locs : List Loc} {cells slots mc ms pc k : Nat} {ls : Array Slot} {rest : List Value} {sB : qSt}
    (hC : qCx G M p s0 m args meth c) (hTb : c.exceptionTable.toList = tableOf M.2.2.2.2.2) (hM : M.2.2.2.2.2 = []) (hfr : 8 ≤ R.frames) (hlo : 200 ≤ R.locals) (hsite : qSiteAt M pc k) (hls : ls.size = M.2.2.2.1) (hrest : (rest.map fun v => v.category).sum ≤ 8) (hR : qRel G sB H) (hz : s0.heap.size ≤ H.size) (hlc : ∀ z ∈ locs, G.1 ≤ z.base) (hc : cells + 1 ≤ mc) (hs : slots + 6 ≤ ms) (hmc : mc ≤ R.cells) (hms : ms ≤ R.slots) :
    W p l e R s0 m args below meth c H locs cells slots (vx_MQ below (qQc G (.inr k) (qthr sB)) (qXC G (.inr k) (qthr sB)) args s0 mc ms (qA G)) (F0 m pc ls rest) := by
  have hC' := hC
  have hsite' := hsite
  obtain ⟨hx, hb, hml, hnm, hown, hts, hret, hlk, hTB, hH0⟩ := hC
  have hno : ∀ x ∈ c.exceptionTable.toList, False := by
    intro x hx
    rw [hTb, hM] at hx
    cases hx
  have hlsc : ls.size = c.maxLocals := hls.trans hml.symm
  obtain ⟨ik, js, jc, e0, e3, hw⟩ := hsite
  have key : ∃ w, qTx M.1 ik js jc w = some k := by
    rcases hw with ⟨-, -, -, h⟩ | ⟨-, -, -, h⟩
    · exact ⟨_, h⟩
    · exact ⟨_, h⟩
  obtain ⟨w, hw0⟩ := key
  obtain ⟨tx, hmem⟩ := qTx_ok hw0
  have hall := List.all_eq_true.mp qTxL_ok _ hmem
  simp only [Bool.and_eq_true, Bool.or_eq_true, decide_eq_true_eq] at hall
  obtain ⟨hM9, hall⟩ := hall
  have hcl := qmap_in qTx_k hmem
  have hin := qmap_in qTx_n hmem
  obtain ⟨sa, hstr⟩ := hTB.2.2.2.1 _ hmem
  have hU : vx_Zq Bundle.tN "UNASSIGNED_STACK" Bundle.steD (qA G) s0 s0.heap := hTB.2.2.2.2.2.2.2.1.kept (fun a _ hA => hH0 a (Nat.not_le.mp hA))
  have hN : vx_Zq Bundle.tN "SUPPRESSED_SENTINEL" Bundle.listD (qA G) s0 s0.heap := hTB.2.2.2.2.2.2.2.2.1.kept (fun a _ hA => hH0 a (Nat.not_le.mp hA))
  have hS : va_S (qA G) s0.heap H locs := qRel_S hR hH0 hz hlc
  have hXC : ∀ (k : Nat), k < 3 → ∀ t : State, s0.vm.Alike t.vm → H.size ≤ t.heap.size → (∀ q : Nat, q < H.size → t.heap[q]? = H[q]?) → qXC G (.inr k) (qthr sB) (qEx k) s0 t := fun k hk t _ h1 h2 => ⟨k, rfl, hk, rfl, qRel_thr hR h1 h2, Nat.le_trans hz h1⟩
  rw [hM9] at hown
  have hcl' := hts _ hcl
  have hin' := hts _ hin
  dsimp only at hcl' hin' hstr
  rw [hM9] at hcl' hstr
  rcases hall with (⟨rfl, rfl, rfl⟩ | ⟨rfl, rfl, rfl⟩) | ⟨rfl, rfl, rfl⟩
  · rcases hw with ⟨e4, e6, e9, -⟩ | ⟨e4, e7, e10, -⟩
    · exact vx_throwS hx hb hst hown (by decide +kernel) qnames_fit hcl' hin' hstr (qat0 hts hTB) qot0 hU hN hS hlsc e0 e3 e4 e6 e9 (fun x hx => (hno x hx).elim) (by show 2 + 3 < _; omega) (by show _ + (13 * (2 + 1) + 43) ≤ _; omega) (by omega) (by omega) hlk (hXC 0 (by decide)) hlc hc hs
    · exact vx_throwSW hx hb hst hown (by decide +kernel) qnames_fit hcl' hin' hstr (qat0 hts hTB) qot0 hU hN hS hlsc e0 e3 e4 e7 e10 (fun x hx => (hno x hx).elim) (by show 2 + 3 < _; omega) (by show _ + (13 * (2 + 1) + 43) ≤ _; omega) (by omega) (by omega) hlk (hXC 0 (by decide)) hlc hc hs
  · rcases hw with ⟨e4, e6, e9, -⟩ | ⟨e4, e7, e10, -⟩
    · exact vx_throwS hx hb hst hown (by decide +kernel) qnames_fit hcl' hin' hstr (qat1 hts hTB) qot1 hU hN hS hlsc e0 e3 e4 e6 e9 (fun x hx => (hno x hx).elim) (by show 2 + 3 < _; omega) (by show _ + (13 * (2 + 1) + 43) ≤ _; omega) (by omega) (by omega) hlk (hXC 1 (by decide)) hlc hc hs
    · exact vx_throwSW hx hb hst hown (by decide +kernel) qnames_fit hcl' hin' hstr (qat1 hts hTB) qot1 hU hN hS hlsc e0 e3 e4 e7 e10 (fun x hx => (hno x hx).elim) (by show 2 + 3 < _; omega) (by show _ + (13 * (2 + 1) + 43) ≤ _; omega) (by omega) (by omega) hlk (hXC 1 (by decide)) hlc hc hs
  · exact qthrow2 hst hC' hown hno hfr hlo hlsc hrest hR hz hlc hc hs hmc hms hcl' hin' hstr e0 e3 (hw.imp (fun h => ⟨h.1, h.2.1, h.2.2.1⟩) (fun h => ⟨h.1, h.2.1, h.2.2.1⟩))
/-- the ends of an ordinary method -/
theorem qend_of {l : Launch} {G : qG} (hst : l.stackTraces = false) {M : qM} {p : Program} {e : Env} {R : Room} {s0 : State} {m : MethodId} {args : Array Value} {below : List Frame} {meth : Method} {c : Code} {o : qO} {s' : qSt} {mc ms : Nat} (hC : qCx G M p s0 m args meth c) (hTb : c.exceptionTable.toList = tableOf M.2.2.2.2.2) (hfr : 8 ≤ R.frames) (hlo : 200 ≤ R.locals) (hmc : mc ≤ R.cells) (hms : ms ≤ R.slots) (hx0 : ∀ k, o = .inr k → M.2.2.2.2.2 = []) :
    qEnd G M p l e R s0 m args below meth c o s' mc ms (vx_MQ below (qQc G o s') (qXC G o s') args s0 mc ms (qA G)) := by
  have hC' := hC
  obtain ⟨hx, hb, hml, hnm, hown, hts, hret, hlk, hTB, hH0⟩ := hC
  refine ⟨?_, ?_, ?_⟩
  · intro v pc ls H2 locs2 cells2 slots2 ho hr hR hz hlc hc hs
    refine vx_ret (W.widen hc hs ?_)
    rcases hr with ⟨x, rt, rfl, hd, hrt, hn⟩ | ⟨x, rfl, hd, hrt⟩ | ⟨x, n, rfl, hd, hrt⟩ | ⟨rfl, hd, hrt⟩ | ⟨x, n, rfl, hd, hrt⟩
    · exact W.zret hx hb (hret.trans hrt) hn (fun t ht _ => ⟨_, ho, rfl, by rw [ht]; exact hR, by rw [ht]; exact hz⟩) hlc hd
    · exact W.dret hx hb (hret.trans hrt) (fun t ht _ => ⟨_, ho, rfl, by rw [ht]; exact hR, by rw [ht]; exact hz⟩) hlc hd
    · exact W.aret hx hb (hret.trans hrt) (Or.inl ⟨n, rfl⟩) (Or.inr ⟨_, rfl⟩) (fun t ht _ => ⟨_, ho, rfl, by rw [ht]; exact hR, by rw [ht]; exact hz⟩) hlc hd
    · exact W.vret hx hb (hret.trans hrt) (fun t ht _ => ⟨_, ho, rfl, by rw [ht]; exact hR, by rw [ht]; exact hz⟩) hlc hd
    · exact W.aret hx hb (hret.trans hrt) (Or.inr ⟨n, rfl⟩) (Or.inr ⟨_, rfl⟩) (fun t ht _ => ⟨_, ho, rfl, by rw [ht]; exact hR, by rw [ht]; exact hz⟩) hlc hd
  · intro k pc ls rest sB H2 locs2 cells2 slots2 ho hs' hsite hls hrest hR hz hlc hc hs
    subst ho; subst hs'
    exact qthrow hst hC' hTb (hx0 k rfl) hfr hlo hsite hls hrest hR hz hlc hc hs hmc hms
  · intro k pc ls rest H2 locs2 cells2 slots2 q9 ce ho hM hR hz hlc hc hs hcell hvm hcl hk
    refine vx_out (E := qEx k) (ce := ce) (fun x hx => ?_) hlk hcell hvm hcl (fun t ht _ => ⟨k, ho, hk, rfl, by rw [ht]; exact hR, by rw [ht]; exact hz⟩) hlc hc hs
    rw [hTb, hM] at hx
    cases hx
theorem qblind (G : qG) (s : qSt) (as : List Value) : FrameBlind (va_Pc as (fun U => qTB G U ∧ qRel G s U.heap)) := fun a U g mk q => ⟨q.1, qTB.same q.2.1 rfl, q.2.2⟩
/-- a callee's contract -/
theorem qmet {l : Launch} {G : qG} (hst : l.stackTraces = false) {n : Nat} (ih : qSndAt l G n) {d : Nat} {C : qM} {as : List Value} {s s1 : qSt} {o1 : qO} (hcal : qExec n d C 0 (qen C.2.2.2.1 as) [] s = some (o1, s1)) (hok : qok C as = true) (hcls : C.2.1.cls = qNm C.1) (hpl : plainName C.2.1.cls = true) (hx0 : ∀ k, o1 = .inr k → C.2.2.2.2.2 = []) :
    vx_Met l C.2.1 (qws C) (qroom d (s1.1 + s1.2.1 - (s.1 + s.2.1)) (s1.2.2.1 - s.2.2.1)) (va_Pc (as.map (qV G)) (fun U => qTB G U ∧ qRel G s U.heap)) (qQc G o1 s1) (qXC G o1 s1) (s1.1 + s1.2.1 - (s.1 + s.2.1)) (s1.2.2.1 - s.2.2.1) (qA G) := by
  have hmono := qexec_mono _ _ _ _ _ _ _ _ _ hcal
  unfold qok at hok
  simp only [Bool.and_eq_true, decide_eq_true_eq] at hok
  have body : ∀ (p : Program) (e : Env) (s0 : State) (m : MethodId) (args : Array Value) (below : List Frame) (meth : Method) (c : Code), p.tables.exec = Jvm.exec → c.code = C.2.2.1 → c.maxLocals = C.2.2.2.1 → meth.name = C.2.1.name → s0.vm.findClass C.2.1.cls = some m.cls → (∀ w ∈ qws C, w.before args s0 = true) → meth.sig.returnType = C.2.2.2.2.1 → meth.locks = false → c.exceptionTable.toList = tableOf C.2.2.2.2.2 → va_Pc (as.map (qV G)) (fun U => qTB G U ∧ qRel G s U.heap) args s0 →
      W p l e (qroom d (s1.1 + s1.2.1 - (s.1 + s.2.1)) (s1.2.2.1 - s.2.2.1)) s0 m args below meth c s0.heap [] 0 0 (vx_MQ below (qQc G o1 s1) (qXC G o1 s1) args s0 (s1.1 + s1.2.1 - (s.1 + s.2.1)) (s1.2.2.1 - s.2.2.1) (qA G)) (entryFrame m args C.2.2.2.1) := by
    intro p e s0 m args below meth c hx hb hml hnm hown hts hret hlk hTb hP
    obtain ⟨rfl, hTB, hR⟩ := hP
    rw [lg_entry_eq]
    have hC : qCx G C p s0 m (as.map (qV G)).toArray meth c := ⟨hx, hb, hml, hnm, by rw [← hcls]; exact hown, fun w hw => hts w (List.mem_cons_of_mem _ hw), hret, hlk, hTB, hR.2.2.2.2.1⟩
    obtain ⟨-, hL⟩ := qLs_entry (G := G) hok.1 hok.2
    exact ih d C 0 (qen C.2.2.2.1 as) [] s o1 s1 hcal p e _ s0 m _ below meth c s0.heap [] 0 0 _ _ (s1.1 + s1.2.1 - (s.1 + s.2.1)) (s1.2.2.1 - s.2.2.1) hC hTb (Nat.le_refl _) (Nat.le_refl _) hL hR (Nat.le_refl _) (fun z hz => by cases hz) (by omega) (by omega) (Nat.le_refl _) (Nat.le_refl _)
      (qend_of hst hC hTb (by show 8 ≤ d + 8; omega) (by show 200 ≤ 60 * d + 200; omega) (Nat.le_refl _) (Nat.le_refl _) hx0)
  cases hh : C.2.2.2.2.2 with
  | nil =>
    have hw : qws C = Cond.code C.2.1 C.2.2.1 C.2.2.2.1 C.2.2.2.2.1 :: wsL_law := by unfold qws qcw; rw [hh]
    refine vx_ofW hpl hw ?_
    intro p e s0 m args below meth c s₁ B hml htab hP
    refine body p e s0 m args below meth c B.exec B.bytes hml (name_of_methodNamed B.named B.method).1 (findClass_of_methodNamed B.named) (atoms_spec (ws := qws C) B.pre) B.returns B.notSynchronized ?_ hP
    rw [hh]
    cases ht : c.exceptionTable.toList with
    | nil => rfl
    | cons x y => exact absurd (by rw [ht]; exact List.mem_cons_self) (fun h => htab x h)
  | cons h t =>
    have hw : qws C = Cond.codeWith C.2.1 C.2.2.1 C.2.2.2.1 C.2.2.2.2.1 (h :: t) :: wsL_law := by unfold qws qcw; rw [hh]
    refine vx_ofWH hpl hw ?_
    intro p e s0 m args below meth c s₁ B hml hP
    have hts := atoms_spec (ws := qws C) B.pre
    refine body p e s0 m args below meth c B.exec B.bytes hml (name_of_methodNamed B.named B.method).1 (findClass_of_methodNamed B.named) hts B.returns B.notSynchronized ?_ hP
    rw [hh]
    have hcw : (Cond.codeWith C.2.1 C.2.2.1 C.2.2.2.1 C.2.2.2.2.1 (h :: t)).before args s0 = true := hts _ (by rw [hw]; exact List.mem_cons_self)
    exact vx_table (x := C.2.1) B hcw
