/-! a run of the small machine is a run of the machine -/
def qQc (G : qG) (o : qO) (s' : qSt) : Array Value → State → Outcome → State → Prop := fun _ st oc t => ∃ v : Option Value, o = .inl v ∧ oc = .returned (v.map (qV G)) ∧ qRel G s' t.heap ∧ st.heap.size ≤ t.heap.size
def qXC (G : qG) (o : qO) (s' : qSt) : String → State → State → Prop := fun E st t => ∃ k : Nat, o = .inr k ∧ k < 3 ∧ E = qEx k ∧ qRel G s' t.heap ∧ st.heap.size ≤ t.heap.size
def qRetAt (M : qM) (pc : Nat) (v : Option Value) : Prop :=
  (∃ x rt, v = some (.int x) ∧ decode M.2.2.1 pc = .ok (.ireturn, 1) ∧ M.2.2.2.2.1 = some rt ∧ narrow rt (.int x) = .int x) ∨
  (∃ x, v = some (.double x) ∧ decode M.2.2.1 pc = .ok (.dreturn, 1) ∧ M.2.2.2.2.1 = some .double) ∨
  (∃ x n, v = some (.ref x) ∧ decode M.2.2.1 pc = .ok (.areturn, 1) ∧ M.2.2.2.2.1 = some (.object n)) ∨
  (v = none ∧ decode M.2.2.1 pc = .ok (.return_, 1) ∧ M.2.2.2.2.1 = none) ∨
  (∃ x n, v = some (.ref x) ∧ decode M.2.2.1 pc = .ok (.areturn, 1) ∧ M.2.2.2.2.1 = some (.array n))
def qSiteAt (M : qM) (pc k : Nat) : Prop := ∃ ik js jc, decode M.2.2.1 pc = .ok (.new ik, 3) ∧ decode M.2.2.1 (pc + 3) = .ok (.dup, 1) ∧
  ((decode M.2.2.1 (pc + 4) = .ok (.ldc js, 2) ∧ decode M.2.2.1 (pc + 6) = .ok (.invokespecial jc, 3) ∧ decode M.2.2.1 (pc + 9) = .ok (.athrow, 1) ∧ qTx M.1 ik js jc false = some k) ∨
   (decode M.2.2.1 (pc + 4) = .ok (.ldc_w js, 3) ∧ decode M.2.2.1 (pc + 7) = .ok (.invokespecial jc, 3) ∧ decode M.2.2.1 (pc + 10) = .ok (.athrow, 1) ∧ qTx M.1 ik js jc true = some k))
theorem qend_ret {M : qM} {pc len : Nat} {ins : Instr} {L : qLo} {st : List Value} {s s2 : qSt} {o : qO} (hd : decode M.2.2.1 pc = .ok (ins, len)) (hs : qStep M pc ins len L st s = some (.inr (.inl (o, s2)))) (hi : ∀ i, ins ≠ .new i) : ∃ v, o = .inl v ∧ s2 = s ∧ st = v.toList ∧ qRetAt M pc v := by
  cases ins <;> dsimp only [qStep] at hs
  case new i => exact absurd rfl (hi i)
  case ireturn =>
    split at hs
    · rename_i hlen; subst hlen
      split at hs
      · rename_i v
        split at hs
        · rename_i rt hrt
          split at hs
          · rename_i hn
            cases hs
            exact ⟨some (.int v), rfl, rfl, rfl, Or.inl ⟨v, rt, rfl, hd, hrt, hn⟩⟩
          · cases hs
        · cases hs
      · cases hs
    · cases hs
  case dreturn =>
    split at hs
    · rename_i hlen; subst hlen
      split at hs
      · rename_i v
        split at hs
        · rename_i hrt
          cases hs
          exact ⟨some (.double v), rfl, rfl, rfl, Or.inr (Or.inl ⟨v, rfl, hd, hrt⟩)⟩
        · cases hs
      · cases hs
    · cases hs
  case areturn =>
    split at hs
    · rename_i hlen; subst hlen
      split at hs
      · rename_i v
        split at hs
        · rename_i n hrt
          cases hs
          exact ⟨some (.ref v), rfl, rfl, rfl, Or.inr (Or.inr (Or.inl ⟨v, n, rfl, hd, hrt⟩))⟩
        · rename_i n hrt
          cases hs
          exact ⟨some (.ref v), rfl, rfl, rfl, Or.inr (Or.inr (Or.inr (Or.inr ⟨v, n, rfl, hd, hrt⟩)))⟩
        · cases hs
      · cases hs
    · cases hs
  case return_ =>
    split at hs
    · rename_i hlen; subst hlen
      split at hs
      · split at hs
        · rename_i hrt
          cases hs
          exact ⟨none, rfl, rfl, rfl, Or.inr (Or.inr (Or.inr (Or.inl ⟨rfl, hd, hrt⟩)))⟩
        · cases hs
      · cases hs
    · cases hs
  all_goals exfalso
  all_goals (repeat' split at hs)
  all_goals first
    | (cases hs; done)
    | (refine absurd hs ?_; simp [qgo]; done)
    | (refine absurd hs ?_; unfold qbr; split <;> (try split) <;> simp [qgo]; done)
    | (simp [Option.bind, qgo] at hs; done)
    | (revert hs; cases qs1 _ _ _ <;> simp [qgo]; done)
    | (revert hs; cases qs2 _ _ _ <;> simp [qgo]; done)
theorem qend_new {M : qM} {pc len i : Nat} {L : qLo} {st : List Value} {s s2 : qSt} {o : qO} (hd : decode M.2.2.1 pc = .ok (.new i, len)) (hs : qStep M pc (.new i) len L st s = some (.inr (.inl (o, s2)))) : ∃ E, o = .inr E ∧ s2 = qthr s ∧ qcat st = true ∧ qSiteAt M pc E ∧ M.2.2.2.2.2 = [] := by
  dsimp only [qStep] at hs
  split at hs
  · rename_i hlen; subst hlen
    split at hs
    · split at hs <;> cases hs
    · split at hs
      · rename_i js e3 e4
        split at hs
        · rename_i jc e6 e9
          split at hs
          · rename_i E hE
            split at hs
            · rename_i hc
              cases hs
              exact ⟨E, rfl, rfl, hc.1, ⟨i, js, jc, hd, e3, Or.inl ⟨e4, e6, e9, hE⟩⟩, List.isEmpty_iff.mp hc.2⟩
            · cases hs
          · cases hs
        · cases hs
      · rename_i js e3 e4
        split at hs
        · rename_i jc e6 e9
          split at hs
          · rename_i E hE
            split at hs
            · rename_i hc
              cases hs
              exact ⟨E, rfl, rfl, hc.1, ⟨i, js, jc, hd, e3, Or.inr ⟨e4, e6, e9, hE⟩⟩, List.isEmpty_iff.mp hc.2⟩
            · cases hs
          · cases hs
        · cases hs
      · cases hs
  · cases hs
theorem qcall_ok {M C : qM} {pc len i : Nat} {ins : Instr} {L : qLo} {st as rest : List Value} {s : qSt} (hs : qStep M pc ins len L st s = some (.inr (.inr (i, C, as, rest)))) : len = 3 ∧ qcat rest = true ∧ ∃ mo n, (M.1, i, mo, C, n) ∈ qTcL ∧
    ((ins = .invokestatic i ∧ (mo = 1 ∨ mo = 4) ∧ as.length = n ∧ st = as.reverse ++ rest) ∨
     (ins = .invokevirtual i ∧ (mo = 0 ∨ mo = 15 ∨ mo = 16) ∧ ∃ a as0 ci, as = .ref a :: as0 ∧ as0.length = n ∧ st = as0.reverse ++ .ref a :: rest ∧ qclx s a = some ci ∧ ci + 1 = C.1) ∨
     (ins = .invokespecial i ∧ (mo = 2 ∨ mo = 3) ∧ ∃ a as0 ci, as = .ref a :: as0 ∧ as0.length = n ∧ st = as0.reverse ++ .ref a :: rest ∧ qcls s a = some ci ∧ ci + 1 = C.1) ∨
     (ins = .invokevirtual i ∧ mo = 10 ∧ ∃ a as0, as = .ref a :: as0 ∧ as0.length = n ∧ st = as0.reverse ++ .ref a :: rest ∧ qcls s a = some 11) ∨
     (ins = .invokespecial i ∧ (mo = 11 ∨ mo = 12) ∧ ∃ a as0, as = .ref a :: as0 ∧ as0.length = n ∧ st = as0.reverse ++ .ref a :: rest ∧ qcls s a = some 11)) := by
  cases ins <;> dsimp only [qStep] at hs
  case invokestatic j =>
    split at hs
    · rename_i hlen
      split at hs
      · rename_i mo C' n hc
        split at hs
        · rename_i as' rest' ha
          obtain ⟨h1, h2⟩ := qargs_ok ha
          split at hs
          · rename_i hcat
            split at hs
            · rename_i hmo
              cases hs
              exact ⟨hlen, hcat, mo, n, qTc_ok hc, Or.inl ⟨rfl, hmo, h2, h1⟩⟩
            · exfalso
              (repeat' split at hs) <;> first | (cases hs; done) | (refine absurd hs ?_; simp [qgo]; done)
          · cases hs
        · cases hs
      · cases hs
    · cases hs
  case invokevirtual j =>
    split at hs
    · rename_i hlen
      split at hs
      · rename_i mo C' n hc
        split at hs
        · rename_i as' a rest' ha
          obtain ⟨h1, h2⟩ := qargs_ok ha
          split at hs
          · rename_i hcat
            split at hs
            · rename_i hmo
              split at hs
              · rename_i ci hci
                split at hs
                · rename_i hC
                  cases hs
                  exact ⟨hlen, hcat, mo, n, qTc_ok hc, Or.inr (Or.inl ⟨rfl, hmo, a, as', ci, rfl, h2, h1, hci, hC⟩)⟩
                · cases hs
              · cases hs
            · split at hs
              · exfalso
                (repeat' split at hs) <;> first | (cases hs; done) | (refine absurd hs ?_; simp [qgo]; done)
              · split at hs
                · exfalso
                  (repeat' split at hs) <;> first | (cases hs; done) | (refine absurd hs ?_; simp [qgo]; done)
                · split at hs
                  · rename_i h10
                    split at hs
                    · rename_i ci hci
                      split at hs
                      · rename_i hC
                        cases hs
                        exact ⟨hlen, hcat, mo, n, qTc_ok hc, Or.inr (Or.inr (Or.inr (Or.inl ⟨rfl, h10, a, as', rfl, h2, h1, by rw [hci, hC]⟩)))⟩
                      · cases hs
                    · cases hs
                  · exfalso
                    (repeat' split at hs) <;> first | (cases hs; done) | (refine absurd hs ?_; simp [qgo]; done)
          · cases hs
        · cases hs
      · cases hs
    · cases hs
  case invokespecial j =>
    split at hs
    · rename_i hlen
      split at hs
      · rename_i mo C' n hc
        split at hs
        · rename_i as' a rest' ha
          obtain ⟨h1, h2⟩ := qargs_ok ha
          split at hs
          · rename_i hcat
            split at hs
            · rename_i hmo
              split at hs
              · rename_i ci hci
                split at hs
                · rename_i hC
                  cases hs
                  exact ⟨hlen, hcat, mo, n, qTc_ok hc, Or.inr (Or.inr (Or.inl ⟨rfl, hmo, a, as', ci, rfl, h2, h1, hci, hC⟩))⟩
                · cases hs
              · cases hs
            · split at hs
              · exfalso
                (repeat' split at hs) <;> first | (cases hs; done) | (refine absurd hs ?_; simp [qgo]; done)
              · split at hs
                · rename_i h11
                  split at hs
                  · rename_i ci hci
                    split at hs
                    · rename_i hC
                      cases hs
                      exact ⟨hlen, hcat, mo, n, qTc_ok hc, Or.inr (Or.inr (Or.inr (Or.inr ⟨rfl, h11, a, as', rfl, h2, h1, by rw [hci, hC]⟩)))⟩
                    · cases hs
                  · cases hs
                · cases hs
          · cases hs
        · cases hs
      · cases hs
    · cases hs
  all_goals exfalso
  all_goals (repeat' split at hs)
  all_goals first
    | (cases hs; done)
    | (refine absurd hs ?_; simp [qgo]; done)
    | (refine absurd hs ?_; unfold qbr; split <;> (try split) <;> simp [qgo]; done)
    | (simp [Option.bind, qgo] at hs; done)
    | (revert hs; cases qs1 _ _ _ <;> simp [qgo]; done)
    | (revert hs; cases qs2 _ _ _ <;> simp [qgo]; done)
