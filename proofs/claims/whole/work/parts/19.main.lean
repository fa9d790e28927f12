/-! a run of the small machine is a run of the machine -/
def qQc (G : qG) (o : qO) (s' : qSt) : Array Value → State → Outcome → State → Prop := fun _ st oc t => ∃ v : Option Value, o = .inl v ∧ oc = .returned (v.map (qV G)) ∧ qRel G s' t.heap ∧ st.heap.size ≤ t.heap.size
def qXC (G : qG) (o : qO) (s' : qSt) : String → State → State → Prop := fun E st t => ∃ k : Nat, o = .inr k ∧ k < 4 ∧ E = qEx k ∧ qRel G s' t.heap ∧ st.heap.size ≤ t.heap.size
def qRetAt (M : qM) (pc : Nat) (v : Option Value) : Prop :=
  (∃ x rt, v = some (.int x) ∧ decode M.2.2.1 pc = .ok (.ireturn, 1) ∧ M.2.2.2.2.1 = some rt ∧ narrow rt (.int x) = .int x) ∨
  (∃ x, v = some (.double x) ∧ decode M.2.2.1 pc = .ok (.dreturn, 1) ∧ M.2.2.2.2.1 = some .double) ∨
  (∃ x n, v = some (.ref x) ∧ decode M.2.2.1 pc = .ok (.areturn, 1) ∧ M.2.2.2.2.1 = some (.object n)) ∨
  (v = none ∧ decode M.2.2.1 pc = .ok (.return_, 1) ∧ M.2.2.2.2.1 = none)
def qSiteAt (M : qM) (pc k : Nat) : Prop := ∃ ik js jc, decode M.2.2.1 pc = .ok (.new ik, 3) ∧ decode M.2.2.1 (pc + 3) = .ok (.dup, 1) ∧
  ((decode M.2.2.1 (pc + 4) = .ok (.ldc js, 2) ∧ decode M.2.2.1 (pc + 6) = .ok (.invokespecial jc, 3) ∧ decode M.2.2.1 (pc + 9) = .ok (.athrow, 1) ∧ qTx M.1 ik js jc false = some k) ∨
   (decode M.2.2.1 (pc + 4) = .ok (.ldc_w js, 3) ∧ decode M.2.2.1 (pc + 7) = .ok (.invokespecial jc, 3) ∧ decode M.2.2.1 (pc + 10) = .ok (.athrow, 1) ∧ qTx M.1 ik js jc true = some k))
theorem qend_ret {M : qM} {pc len : Nat} {ins : Instr} {L : qLo} {st : List Value} {s s2 : qSt} {o : qO} (hd : decode M.2.2.1 pc = .ok (ins, len)) (hs : qStep M pc ins len L st s = some (.inr (.inl (o, s2)))) (hi : ∀ i, ins ≠ .new i) : ∃ v, o = .inl v ∧ s2 = s ∧ st = v.toList ∧ qRetAt M pc v := by
  cases ins <;> dsimp only [qStep] at hs
  case new i => exact absurd rfl (hi i)
  case ireturn =>
    split at hs
    · rename_i hlen; subst hlen
      split at hs
      · rename_i v
        split at hs
        · rename_i rt hrt
          split at hs
          · rename_i hn
            cases hs
            exact ⟨some (.int v), rfl, rfl, rfl, Or.inl ⟨v, rt, rfl, hd, hrt, hn⟩⟩
          · cases hs
        · cases hs
      · cases hs
    · cases hs
  case dreturn =>
    split at hs
    · rename_i hlen; subst hlen
      split at hs
      · rename_i v
        split at hs
        · rename_i hrt
          cases hs
          exact ⟨some (.double v), rfl, rfl, rfl, Or.inr (Or.inl ⟨v, rfl, hd, hrt⟩)⟩
        · cases hs
      · cases hs
    · cases hs
  case areturn =>
    split at hs
    · rename_i hlen; subst hlen
      split at hs
      · rename_i v
        split at hs
        · rename_i n hrt
          cases hs
          exact ⟨some (.ref v), rfl, rfl, rfl, Or.inr (Or.inr (Or.inl ⟨v, n, rfl, hd, hrt⟩))⟩
        · cases hs
      · cases hs
    · cases hs
  case return_ =>
    split at hs
    · rename_i hlen; subst hlen
      split at hs
      · split at hs
        · rename_i hrt
          cases hs
          exact ⟨none, rfl, rfl, rfl, Or.inr (Or.inr (Or.inr ⟨rfl, hd, hrt⟩))⟩
        · cases hs
      · cases hs
    · cases hs
  all_goals exfalso
  all_goals (repeat' split at hs)
  all_goals first
    | exact absurd hs (by simp [qgo]; done)
    | exact absurd hs (by unfold qbr; split <;> (try split) <;> simp [qgo]; done)
    | (simp [Option.bind, qgo] at hs; done)
    | (revert hs; cases qs1 _ _ _ <;> simp [qgo]; done)
    | (revert hs; cases qs2 _ _ _ <;> simp [qgo]; done)
theorem qend_new {M : qM} {pc len i : Nat} {L : qLo} {st : List Value} {s s2 : qSt} {o : qO} (hd : decode M.2.2.1 pc = .ok (.new i, len)) (hs : qStep M pc (.new i) len L st s = some (.inr (.inl (o, s2)))) : ∃ E, o = .inr E ∧ s2 = qthr s ∧ qcat st = true ∧ qSiteAt M pc E ∧ M.2.2.2.2.2 = [] := by
  dsimp only [qStep] at hs
  split at hs
  · rename_i hlen; subst hlen
    split at hs
    · split at hs <;> cases hs
    · split at hs
      · rename_i js e3 e4
        split at hs
        · rename_i jc e6 e9
          split at hs
          · rename_i E hE
            split at hs
            · rename_i hc
              cases hs
              exact ⟨E, rfl, rfl, hc.1, ⟨i, js, jc, hd, e3, Or.inl ⟨e4, e6, e9, hE⟩⟩, List.isEmpty_iff.mp hc.2⟩
            · cases hs
          · cases hs
        · cases hs
      · rename_i js e3 e4
        split at hs
        · rename_i jc e6 e9
          split at hs
          · rename_i E hE
            split at hs
            · rename_i hc
              cases hs
              exact ⟨E, rfl, rfl, hc.1, ⟨i, js, jc, hd, e3, Or.inr ⟨e4, e6, e9, hE⟩⟩, List.isEmpty_iff.mp hc.2⟩
            · cases hs
          · cases hs
        · cases hs
      · cases hs
  · cases hs
theorem qcall_ok {M C : qM} {pc len i : Nat} {ins : Instr} {L : qLo} {st as rest : List Value} {s : qSt} (hs : qStep M pc ins len L st s = some (.inr (.inr (i, C, as, rest)))) : len = 3 ∧ qcat rest = true ∧ ∃ mo n, (M.1, i, mo, C, n) ∈ qTcL ∧
    ((ins = .invokestatic i ∧ (mo = 1 ∨ mo = 4) ∧ as.length = n ∧ st = as.reverse ++ rest) ∨
     (ins = .invokevirtual i ∧ mo = 0 ∧ ∃ a as0 ci, as = .ref a :: as0 ∧ as0.length = n ∧ st = as0.reverse ++ .ref a :: rest ∧ qcls s a = some ci ∧ ci + 1 = C.1) ∨
     (ins = .invokespecial i ∧ (mo = 2 ∨ mo = 3) ∧ ∃ a as0 ci, as = .ref a :: as0 ∧ as0.length = n ∧ st = as0.reverse ++ .ref a :: rest ∧ qcls s a = some ci ∧ ci + 1 = C.1)) := by
  cases ins <;> dsimp only [qStep] at hs
  case invokestatic j =>
    split at hs
    · rename_i hlen
      split at hs
      · rename_i mo C' n hc
        split at hs
        · rename_i as' rest' ha
          obtain ⟨h1, h2⟩ := qargs_ok ha
          split at hs
          · rename_i hcat
            split at hs
            · rename_i hmo
              cases hs
              exact ⟨hlen, hcat, mo, n, qTc_ok hc, Or.inl ⟨rfl, hmo, h2, h1⟩⟩
            · exfalso
              (repeat' split at hs) <;> first | exact absurd hs (by simp [qgo]; done)
          · cases hs
        · cases hs
      · cases hs
    · cases hs
  case invokevirtual j =>
    split at hs
    · rename_i hlen
      split at hs
      · rename_i mo C' n hc
        split at hs
        · rename_i as' a rest' ha
          obtain ⟨h1, h2⟩ := qargs_ok ha
          split at hs
          · rename_i hcat
            split at hs
            · rename_i hmo
              split at hs
              · rename_i ci hci
                split at hs
                · rename_i hC
                  cases hs
                  exact ⟨hlen, hcat, mo, n, qTc_ok hc, Or.inr (Or.inl ⟨rfl, hmo, a, as', ci, rfl, h2, h1, hci, hC⟩)⟩
                · cases hs
              · cases hs
            · exfalso
              (repeat' split at hs) <;> first | exact absurd hs (by simp [qgo]; done)
          · cases hs
        · cases hs
      · cases hs
    · cases hs
  case invokespecial j =>
    split at hs
    · rename_i hlen
      split at hs
      · rename_i mo C' n hc
        split at hs
        · rename_i as' a rest' ha
          obtain ⟨h1, h2⟩ := qargs_ok ha
          split at hs
          · rename_i hcat
            split at hs
            · rename_i hmo
              split at hs
              · rename_i ci hci
                split at hs
                · rename_i hC
                  cases hs
                  exact ⟨hlen, hcat, mo, n, qTc_ok hc, Or.inr (Or.inr ⟨rfl, hmo, a, as', ci, rfl, h2, h1, hci, hC⟩)⟩
                · cases hs
              · cases hs
            · exfalso
              (repeat' split at hs) <;> first | exact absurd hs (by simp [qgo]; done)
          · cases hs
        · cases hs
      · cases hs
    · cases hs
  all_goals exfalso
  all_goals (repeat' split at hs)
  all_goals first
    | exact absurd hs (by simp [qgo]; done)
    | exact absurd hs (by unfold qbr; split <;> (try split) <;> simp [qgo]; done)
    | (simp [Option.bind, qgo] at hs; done)
    | (revert hs; cases qs1 _ _ _ <;> simp [qgo]; done)
    | (revert hs; cases qs2 _ _ _ <;> simp [qgo]; done)
/-! the locals at the start -/
theorem lv_args_mem : ∀ (vs : List Value) (i j : Nat) (v : Value), (∀ w ∈ vs, w.category = 1) → vs[j]? = some v → (i + j, v) ∈ lv_args i vs
  | [], i, j, v, _, h => by simp at h
  | w :: vs, i, 0, v, _, h => by
    cases h
    exact List.mem_cons_self
  | w :: vs, i, j + 1, v, hc, h => by
    have h1 := lv_args_mem vs (i + 1) j v (fun x hx => hc x (List.mem_cons_of_mem _ hx)) (by rwa [List.getElem?_cons_succ] at h)
    unfold lv_args
    rw [if_neg (by rw [hc w List.mem_cons_self]; decide)]
    refine List.mem_cons_of_mem _ ?_
    rw [show i + (j + 1) = i + 1 + j by omega]
    exact h1
theorem lg_sl_len : ∀ (vs : List Value), (∀ w ∈ vs, w.category = 1) → (lg_sl vs).length = vs.length := by
  intro vs
  induction vs with
  | nil => intro _; rfl
  | cons w vs ih =>
    intro hc
    have h1 := ih (fun x hx => hc x (List.mem_cons_of_mem _ hx))
    unfold lg_sl at h1 ⊢
    rw [List.flatMap_cons, List.length_append, h1, if_neg (by rw [hc w List.mem_cons_self]; decide)]
    simp [Nat.add_comm]
theorem qLs_entry {G : qG} {as : List Value} {n : Nat} (hc : as.all (fun v => v.category == 1) = true) (hn : as.length ≤ n) : (lg_sl (as.map (qV G))).length ≤ n ∧ qLs G ((lg_sl (as.map (qV G)) ++ List.replicate (n - (lg_sl (as.map (qV G))).length) Slot.unset).toArray) n (qen n as) := by
  have hc1 : ∀ w ∈ as.map (qV G), w.category = 1 := by
    intro w hw
    obtain ⟨v, hv, rfl⟩ := List.mem_map.mp hw
    rw [qV_cat]
    simpa using List.all_eq_true.mp hc v hv
  have hlen := lg_sl_len _ hc1
  rw [List.length_map] at hlen
  have h1 : (lg_sl (as.map (qV G))).length ≤ n := by rw [hlen]; exact hn
  refine ⟨h1, ?_, ?_⟩
  · unfold qen
    rw [List.length_append, List.length_map, List.length_replicate]
    omega
  · have h2 := lv_entry (as.map (qV G)) h1
    refine ⟨h2.1, h2.2.1, fun q hq => ?_⟩
    obtain ⟨v, hv, hq2⟩ := mem_qpairs.mp hq
    have hv := qld_eq.mp hv
    unfold qen at hv
    rw [List.getElem?_append] at hv
    split at hv
    · rename_i hlt
      rw [List.getElem?_map] at hv
      cases hx : as[q.1]? with
      | none => rw [hx] at hv; cases hv
      | some w =>
        rw [hx] at hv
        have hw : w = v := Option.some.inj (Option.some.inj hv)
        subst hw
        refine h2.2.2 q ?_
        have := lv_args_mem (as.map (qV G)) 0 q.1 (qV G w) hc1 (by rw [List.getElem?_map, hx]; rfl)
        rw [Nat.zero_add, ← hq2] at this
        exact this
    · rw [List.getElem?_replicate] at hv
      split at hv <;> cases hv
