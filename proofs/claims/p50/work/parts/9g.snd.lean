/-! the counts only grow -/
def qM0 (s : qSt) (r : qR) : Prop := match r with
  | .inl x => s.1 + s.2.1 ≤ x.2.2.2.1 + x.2.2.2.2.1 ∧ s.2.2.1 ≤ x.2.2.2.2.2.1
  | .inr (.inl y) => s.1 + s.2.1 ≤ y.2.1 + y.2.2.1 ∧ s.2.2.1 ≤ y.2.2.2.1
  | _ => True
theorem qM_go {pc : Nat} {L : qLo} {st : List Value} {s s2 : qSt} {r : qR} (h : qgo pc L st s2 = some r) (h1 : s.1 + s.2.1 ≤ s2.1 + s2.2.1 ∧ s.2.2.1 ≤ s2.2.2.1) : qM0 s r := by
  unfold qgo at h
  cases h
  exact h1
theorem qM_bind {o : Option qLo} {pc : Nat} {st : List Value} {s : qSt} {r : qR} (h : (o.bind fun L => qgo pc L st s) = some r) : qM0 s r := by
  cases o with
  | none => cases h
  | some L => exact qM_go h ⟨Nat.le_refl _, Nat.le_refl _⟩
theorem qM_br {pc : Nat} {off : Int} {len : Nat} {c : Prop} [Decidable c] {L : qLo} {st : List Value} {s : qSt} {r : qR} (h : qbr pc off len c L st s = some r) : qM0 s r := by
  unfold qbr at h
  split at h
  · split at h <;> exact qM_go h ⟨Nat.le_refl _, Nat.le_refl _⟩
  · cases h
theorem qM_new {pc : Nat} {L : qLo} {st : List Value} {s : qSt} {r : qR} {c : qMC} {n : Nat} (h : qgo pc L st (qnew s c n) = some r) : qM0 s r := qM_go h (by simp only [qnew]; omega)
theorem qM_man {pc : Nat} {L : qLo} {st : List Value} {s : qSt} {r : qR} (h : qgo pc L st (qman s) = some r) : qM0 s r := qM_go h (by
  have h1 : (qman s).1 = s.1 + 7 := rfl
  have h2 : (qman s).2.1 = s.2.1 := rfl
  have h3 : (qman s).2.2.1 = s.2.2.1 + 42 := rfl
  omega)
theorem qM_end {s : qSt} {r : qR} {o : qO} (h : some (Sum.inr (Sum.inl (o, s))) = some r) : qM0 s r := by
  cases h
  exact ⟨Nat.le_refl _, Nat.le_refl _⟩
theorem qM_thr {s : qSt} {r : qR} {o : qO} (h : some (Sum.inr (Sum.inl (o, qthr s))) = some r) : qM0 s r := by
  cases h
  show _ ∧ _
  simp only [qthr]
  omega
theorem qM_call {s : qSt} {r : qR} {x : Nat × qM × List Value × List Value} (h : some (Sum.inr (Sum.inr x)) = some r) : qM0 s r := by
  cases h
  trivial
set_option maxHeartbeats 4000000 in
theorem qstep_mono {M : qM} {pc len : Nat} {ins : Instr} {L : qLo} {st : List Value} {s : qSt} {r : qR} (h : qStep M pc ins len L st s = some r) : qM0 s r := by
  cases ins <;> dsimp only [qStep] at h <;> (repeat' split at h) <;> first
    | (cases h; done)
    | exact qM_go h ⟨Nat.le_refl _, Nat.le_refl _⟩
    | exact qM_bind h
    | exact qM_br h
    | exact qM_new h
    | exact qM_man h
    | exact qM_end h
    | exact qM_thr h
    | exact qM_call h
theorem qexec_mono : ∀ (n d : Nat) (M : qM) (pc : Nat) (L : qLo) (st : List Value) (s : qSt) (o : qO) (s' : qSt), qExec n d M pc L st s = some (o, s') → s.1 + s.2.1 ≤ s'.1 + s'.2.1 ∧ s.2.2.1 ≤ s'.2.2.1 := by
  intro n
  induction n with
  | zero => intro d M pc L st s o s' h; cases h
  | succ n ih =>
    intro d M pc L st s o s' h
    unfold qExec at h
    split at h
    · cases h
    · split at h
      · cases h
      · rename_i pc2 L2 st2 s2 hs
        have h1 := qstep_mono hs
        have h2 := ih _ _ _ _ _ _ _ _ h
        have h1 : s.1 + s.2.1 ≤ s2.1 + s2.2.1 ∧ s.2.2.1 ≤ s2.2.2.1 := h1
        omega
      · rename_i o2 s2 hs
        have h1 : s.1 + s.2.1 ≤ s2.1 + s2.2.1 ∧ s.2.2.1 ≤ s2.2.2.1 := qstep_mono hs
        cases h
        exact h1
      · split at h
        · split at h
          · cases h
          · split at h
            · cases h
            · rename_i v s2 hc
              have h1 := ih _ _ _ _ _ _ _ _ hc
              have h2 := ih _ _ _ _ _ _ _ _ h
              omega
            · rename_i E s2 hc
              have h1 := ih _ _ _ _ _ _ _ _ hc
              split at h
              · cases h
                exact h1
              · split at h
                · cases h
                · split at h
                  · split at h
                    · have h2 := ih _ _ _ _ _ _ _ _ h
                      omega
                    · cases h
                  · split at h
                    · have h2 := ih _ _ _ _ _ _ _ _ h
                      omega
                    · cases h
                  · cases h
        · cases h
