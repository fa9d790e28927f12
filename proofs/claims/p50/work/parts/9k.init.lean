/-! THE CONSTRUCTORS: the small machine's run up to the law's loop, by computing it; the script's cell plays no part in it -/
def qSw (c : qMC) (s : qSt) : qSt := (s.1, s.2.1, s.2.2.1, qup s.2.2.2 1001000 c)
/-- what stands where nothing was made -/
def qd0 (a : Nat) : qMC := if a < 87 then .inl (0, []) else if a < 2000 then .inr (0, 0, .inl (fun _ => 0)) else .inr (9, 0, .inl (fun _ => 0))
def qIn (s : qSt) : Prop := s.1 ≤ 1000 ∧ s.2.2.2 1001000 = .inl (99, []) ∧ (∀ a, s.1 ≤ qPm a → a ≠ 1001000 → s.2.2.2 a = qd0 a) ∧ ∀ a t n f, s.2.2.2 a = .inr (t, n, .inr (.inr (.inr (.inr f)))) → ∀ j, n ≤ j → f j = none
section SWP
variable {c : qMC} {s : qSt} {a : Nat}
theorem sw_ne (h : a ≠ 1001000) : (qSw c s).2.2.2 a = s.2.2.2 a := if_neg h
theorem qPm_1 : qPm 1001000 = 1001000 := rfl
theorem qPi_n1 {k : Nat} (h : k ≤ 1000) : qPi k ≠ 1001000 := by
  have := qPi_sm (k := k) (by omega)
  omega
theorem qIn_lt (hI : qIn s) (h : qPm a < s.1) : a ≠ 1001000 := by
  have h1 := hI.1
  intro q
  rw [q, qPm_1] at h
  omega
theorem sw_1 : (qSw c s).1 = s.1 := rfl
theorem sw_21 : (qSw c s).2.1 = s.2.1 := rfl
theorem sw_ob {ci : Nat} {fs : List Value} (hI : qIn s) (h : qob s a ci = some fs) : qob (qSw c s) a ci = some fs ∧ qPm a < s.1 := by
  obtain ⟨h1, h2⟩ := qob_ok h
  have hne := qIn_lt hI h2
  refine ⟨?_, h2⟩
  unfold qob
  rw [sw_ne hne, h1]
  exact if_pos ⟨rfl, h2⟩
theorem sw_cls {ci : Nat} (hI : qIn s) (h : qcls s a = some ci) : qcls (qSw c s) a = some ci ∧ qPm a < s.1 := by
  obtain ⟨fs, h1, h2⟩ := qcls_ok h
  have hne := qIn_lt hI h2
  refine ⟨?_, h2⟩
  unfold qcls
  rw [sw_ne hne, h1]
  exact if_pos h2
theorem sw_ai {t n : Nat} {f : Nat → Int32} (hI : qIn s) (h : qai s a t = some (n, f)) : qai (qSw c s) a t = some (n, f) ∧ qPm a < s.1 := by
  obtain ⟨h1, h2⟩ := qai_ok h
  have h3 : qPm a < s.1 := by
    rcases h2 with h2 | h2
    · exact h2
    · rw [h2, hI.2.1] at h1
      cases h1
  have hne := qIn_lt hI h3
  refine ⟨?_, h3⟩
  unfold qai
  rw [sw_ne hne, h1]
  exact if_pos ⟨rfl, Or.inl h3⟩
theorem sw_aq {t n : Nat} {f : Nat → Option Nat} (hI : qIn s) (h : qaq s a t = some (n, f)) : qaq (qSw c s) a t = some (n, f) ∧ qPm a < s.1 := by
  obtain ⟨h1, h2⟩ := qaq_ok h
  have hne := qIn_lt hI h2
  refine ⟨?_, h2⟩
  unfold qaq
  rw [sw_ne hne, h1]
  exact if_pos ⟨rfl, h2⟩
theorem sw_put {x : qMC} (hI : qIn s) (h : qPm a < s.1) : qput (qSw c s) a x = qSw c (qput s a x) := by
  have hne := qIn_lt hI h
  show (s.1, s.2.1, s.2.2.1, qup (qup s.2.2.2 1001000 c) a x) = (s.1, s.2.1, s.2.2.1, qup (qup s.2.2.2 a x) 1001000 c)
  congr 3
  funext b
  unfold qup
  by_cases h1 : b = a
  · rw [if_pos h1, if_neg (by omega), if_pos h1]
  · rw [if_neg h1]
    by_cases h2 : b = 1001000
    · rw [if_pos h2, if_pos h2]
    · rw [if_neg h2, if_neg h2, if_neg h1]
theorem sw_new {x : qMC} {n : Nat} (hI : qIn s) : qnew (qSw c s) x n = qSw c (qnew s x n) := by
  have hne : qPi s.1 ≠ 1001000 := qPi_n1 hI.1
  show (s.1 + 1, s.2.1, s.2.2.1 + n, qup (qup s.2.2.2 1001000 c) (qPi s.1) x) = (s.1 + 1, s.2.1, s.2.2.1 + n, qup (qup s.2.2.2 (qPi s.1) x) 1001000 c)
  congr 3
  funext b
  unfold qup
  by_cases h1 : b = qPi s.1
  · rw [if_pos h1, if_neg (fun q => hne (h1.symm.trans q)), if_pos h1]
  · rw [if_neg h1]
    by_cases h2 : b = 1001000
    · rw [if_pos h2, if_pos h2]
    · rw [if_neg h2, if_neg h2, if_neg h1]
/-- what may be laid: no row of references that goes beyond its end -/
def qCkc (x : qMC) : Prop := ∀ t n f, x = .inr (t, n, .inr (.inr (.inr (.inr f)))) → ∀ j, n ≤ j → f j = none
theorem in_put {x : qMC} (hI : qIn s) (h : qPm a < s.1) (hx : qCkc x) : qIn (qput s a x) := by
  have hna := qIn_lt hI h
  obtain ⟨h1, h2, h3, h4⟩ := hI
  refine ⟨h1, ?_, fun b hb hn => ?_, fun b t n f hb => ?_⟩
  · show qup s.2.2.2 a x 1001000 = _
    unfold qup
    rw [if_neg (fun q => hna q.symm)]
    exact h2
  · have hb' : s.1 ≤ qPm b := hb
    show qup s.2.2.2 a x b = _
    unfold qup
    rw [if_neg (fun q => by rw [q] at hb'; omega)]
    exact h3 b hb' hn
  · have hb' : qup s.2.2.2 a x b = _ := hb
    unfold qup at hb'
    by_cases q : b = a
    · rw [if_pos q] at hb'
      exact hx t n f hb'
    · rw [if_neg q] at hb'
      exact h4 b t n f hb'
theorem in_new {x : qMC} {n : Nat} (hI : qIn s) (h : s.1 < 1000) (hx : qCkc x) : qIn (qnew s x n) := by
  have hna := qPi_n1 hI.1
  obtain ⟨h1, h2, h3, h4⟩ := hI
  refine ⟨h, ?_, fun b hb hn => ?_, fun b t n f hb => ?_⟩
  · show qup s.2.2.2 (qPi s.1) x 1001000 = _
    unfold qup
    rw [if_neg (fun q => hna q.symm)]
    exact h2
  · have hb' : s.1 + 1 ≤ qPm b := hb
    show qup s.2.2.2 (qPi s.1) x b = _
    unfold qup
    rw [if_neg (fun q => by rw [q, qPm_Pi] at hb'; omega)]
    exact h3 b (by omega) hn
  · have hb' : qup s.2.2.2 (qPi s.1) x b = _ := hb
    unfold qup at hb'
    by_cases q : b = qPi s.1
    · rw [if_pos q] at hb'
      exact hx t n f hb'
    · rw [if_neg q] at hb'
      exact h4 b t n f hb'
theorem ck_row {n : Nat} : qCkc (.inr (0, n, .inl (fun _ => 0))) := fun _ _ _ h => by cases h
theorem in_row (hI : qIn s) (h : s.1 < 1000) : qIn (qrow s) := in_new hI h ck_row
theorem sw_row (hI : qIn s) : qrow (qSw c s) = qSw c (qrow s) := sw_new hI
theorem sw_man (hI : qIn s) (h : s.1 + 7 ≤ 1000) : qman (qSw c s) = qSw c (qman s) ∧ qIn (qman s) := by
  obtain ⟨s0, hs0⟩ : ∃ s0, s0 = qnew s (.inr (4, 6, .inr (.inr (.inr (.inr (fun i => if i < 6 then some (qPi (s.1 + 1 + i)) else none)))))) 6 := ⟨_, rfl⟩
  have e0 : qnew (qSw c s) (.inr (4, 6, .inr (.inr (.inr (.inr (fun i => if i < 6 then some (qPi (s.1 + 1 + i)) else none)))))) 6 = qSw c s0 := by
    rw [hs0]
    exact sw_new hI
  have i0 : qIn s0 := by
    rw [hs0]
    exact in_new hI (by omega) (fun t n f q j hj => by
      cases q
      exact if_neg (by omega))
  have n0 : s0.1 = s.1 + 1 := by rw [hs0]; rfl
  have i1 := in_row i0 (by omega)
  have n1 : (qrow s0).1 = s0.1 + 1 := rfl
  have i2 := in_row i1 (by omega)
  have n2 : (qrow (qrow s0)).1 = s0.1 + 1 + 1 := rfl
  have i3 := in_row i2 (by omega)
  have n3 : (qrow (qrow (qrow s0))).1 = s0.1 + 1 + 1 + 1 := rfl
  have i4 := in_row i3 (by omega)
  have n4 : (qrow (qrow (qrow (qrow s0)))).1 = s0.1 + 1 + 1 + 1 + 1 := rfl
  have i5 := in_row i4 (by omega)
  have n5 : (qrow (qrow (qrow (qrow (qrow s0))))).1 = s0.1 + 1 + 1 + 1 + 1 + 1 := rfl
  have i6 := in_row i5 (by omega)
  have em : qman s = qrow (qrow (qrow (qrow (qrow (qrow s0))))) := by rw [hs0]; rfl
  have em2 : qman (qSw c s) = qrow (qrow (qrow (qrow (qrow (qrow (qnew (qSw c s) (.inr (4, 6, .inr (.inr (.inr (.inr (fun i => if i < 6 then some (qPi (s.1 + 1 + i)) else none)))))) 6)))))) := rfl
  refine ⟨?_, by rw [em]; exact i6⟩
  rw [em2, e0, em, sw_row i0, sw_row i1, sw_row i2, sw_row i3, sw_row i4, sw_row i5]
end SWP
def qrSw (c : qMC) (r : qR) : qR := match r with
  | .inl (pc, L, st, s) => .inl (pc, L, st, qSw c s)
  | .inr (.inl (o, s)) => .inr (.inl (o, qSw c s))
  | .inr (.inr x) => .inr (.inr x)
def qrIn (r : qR) : Prop := match r with
  | .inl x => qIn x.2.2.2
  | .inr (.inl y) => qIn y.2
  | .inr (.inr _) => True
def qOk (M : qM) (ins : Instr) : Bool := match ins with
  | .iload_n _ => true
  | .aload_n _ => true
  | .istore_n _ => true
  | .astore_n _ => true
  | .iconst _ => true
  | .bipush _ => true
  | .sipush _ => true
  | .iinc _ _ => true
  | .goto _ => true
  | .if_icmp _ _ => true
  | .dup => true
  | .getfield _ => true
  | .putfield _ => true
  | .iastore => true
  | .aastore => true
  | .newarray _ => true
  | .anewarray _ => true
  | .new i => (qTn M.1 i).isSome
  | .invokespecial _ => true
  | .multianewarray _ _ => true
  | .return_ => true
  | _ => false
section SWS
variable {c : qMC} {s : qSt} {M : qM} {pc len : Nat} {L : qLo} {st : List Value} {r : qR}
def SW (c : qMC) (M : qM) (pc : Nat) (ins : Instr) (len : Nat) (L : qLo) (st : List Value) (s : qSt) (r : qR) : Prop := qrIn r ∧ qStep M pc ins len L st (qSw c s) = some (qrSw c r)
theorem sw_go {pc' : Nat} {L' : qLo} {st' : List Value} {s1 : qSt} (hI : qIn s1) (h : qgo pc' L' st' s1 = some r) : qrIn r ∧ qgo pc' L' st' (qSw c s1) = some (qrSw c r) := by
  unfold qgo at h
  cases h
  exact ⟨hI, rfl⟩
theorem sw_bind {o : Option qLo} {pc' : Nat} {st' : List Value} (hI : qIn s) (h : (o.bind fun L => qgo pc' L st' s) = some r) : qrIn r ∧ (o.bind fun L => qgo pc' L st' (qSw c s)) = some (qrSw c r) := by
  cases o with
  | none => cases h
  | some L' => exact sw_go hI h
theorem sw_br {off : Int} {c' : Prop} [Decidable c'] {st' : List Value} (hI : qIn s) (h : qbr pc off len c' L st' s = some r) : qrIn r ∧ qbr pc off len c' L st' (qSw c s) = some (qrSw c r) := by
  unfold qbr at h ⊢
  split at h
  · rename_i h1
    rw [if_pos h1]
    split at h
    · rename_i h2
      rw [if_pos h2]
      exact sw_go hI h
    · rename_i h2
      rw [if_neg h2]
      exact sw_go hI h
  · cases h
theorem ck_obj {x : Nat × List Value} : qCkc (.inl x) := fun _ _ _ h => by cases h
theorem ck_int {t n : Nat} {f : Nat → Int32} : qCkc (.inr (t, n, .inl f)) := fun _ _ _ h => by cases h
theorem ck_zero {t n : Nat} : qCkc (.inr (t, qzero n)) := fun _ _ _ h => by cases h
theorem ck_ref {n : Nat} {f : Nat → Option Nat} (h : ∀ j, n ≤ j → f j = none) : qCkc (.inr (5, n, .inr (.inr (.inr (.inr f))))) := fun _ _ _ q => by
  cases q
  exact h
set_option maxHeartbeats 4000000 in
theorem qstep_sw {ins : Instr} (hI : qIn s) (hk : qOk M ins = true) (h : qStep M pc ins len L st s = some r) : SW c M pc ins len L st s r := by
  unfold SW
  cases ins <;> first | (cases hk; done) | skip
  case iload_n k =>
    dsimp only [qStep] at h ⊢
    split at h
    · rename_i h1
      rw [if_pos h1]
      split at h
      · rename_i x hx
        try rw [hx]
        exact sw_go hI h
      · cases h
    · cases h
  case aload_n k =>
    dsimp only [qStep] at h ⊢
    split at h
    · rename_i h1
      rw [if_pos h1]
      split at h
      · rename_i x hx
        try rw [hx]
        exact sw_go hI h
      · cases h
    · cases h
  case istore_n k =>
    dsimp only [qStep] at h ⊢
    split at h
    · rename_i h1
      rw [if_pos h1]
      split at h
      · exact sw_bind hI h
      · cases h
    · cases h
  case astore_n k =>
    dsimp only [qStep] at h ⊢
    split at h
    · rename_i h1
      rw [if_pos h1]
      split at h
      · exact sw_bind hI h
      · cases h
    · cases h
  case iconst k =>
    dsimp only [qStep] at h ⊢
    split at h
    · rename_i h1
      rw [if_pos h1]
      exact sw_go hI h
    · cases h
  case bipush k =>
    dsimp only [qStep] at h ⊢
    split at h
    · rename_i h1
      rw [if_pos h1]
      exact sw_go hI h
    · cases h
  case sipush k =>
    dsimp only [qStep] at h ⊢
    split at h
    · rename_i h1
      rw [if_pos h1]
      exact sw_go hI h
    · cases h
  case iinc k v =>
    dsimp only [qStep] at h ⊢
    split at h
    · rename_i h1
      rw [if_pos h1]
      split at h
      · rename_i x hx
        try rw [hx]
        exact sw_bind hI h
      · cases h
    · cases h
  case goto off =>
    dsimp only [qStep] at h ⊢
    split at h
    · rename_i h1
      rw [if_pos h1]
      split at h
      · rename_i h2
        rw [if_pos h2]
        exact sw_go hI h
      · cases h
    · cases h
  case if_icmp op off =>
    dsimp only [qStep] at h ⊢
    split at h
    · rename_i h1
      rw [if_pos h1]
      split at h
      · exact sw_br hI h
      · cases h
    · cases h
  case dup =>
    dsimp only [qStep] at h ⊢
    split at h
    · rename_i h1
      rw [if_pos h1]
      split at h
      · split at h
        · rename_i h2
          try dsimp only
          rw [if_pos h2]
          exact sw_go hI h
        · cases h
      · cases h
    · cases h
  case getfield i =>
    dsimp only [qStep] at h ⊢
    split at h
    · rename_i h1
      rw [if_pos h1]
      split at h
      · rename_i a st'
        cases hf : qTf M.1 i with
        | none => rw [hf] at h; cases h
        | some z =>
          obtain ⟨ci, k⟩ := z
          rw [hf] at h
          try dsimp only at h ⊢
          cases hfs : qob s a ci with
          | none =>
            rw [hfs] at h
            try dsimp only at h
            have hst : qistr a = true := by
              split at h
              · rename_i q
                exact q.1
              · split at h
                · rename_i q
                  exact q.1
                · cases h
            have hr := qistr_rg hst
            have e1 : qob (qSw c s) a ci = none := by
              have hne : a ≠ 1001000 := by
                have := hr.2
                intro q
                rw [q] at this
                exact absurd this (by decide)
              rw [← hfs]
              unfold qob
              rw [sw_ne hne]
              rfl
            rw [e1]
            try dsimp only
            split at h
            · rename_i q
              rw [if_pos q]
              exact sw_go hI h
            · rename_i q
              rw [if_neg q]
              split at h
              · rename_i q2
                rw [if_pos q2]
                exact sw_go hI h
              · cases h
          | some fs =>
            rw [hfs] at h
            rw [(sw_ob (c := c) hI hfs).1]
            try dsimp only at h ⊢
            cases hv : fs[k]? with
            | none => rw [hv] at h; cases h
            | some v =>
              rw [hv] at h
              try dsimp only at h ⊢
              exact sw_go hI h
      · cases h
    · cases h
  case putfield i =>
    dsimp only [qStep] at h ⊢
    split at h
    · rename_i h1
      rw [if_pos h1]
      split at h
      · split at h
        · rename_i ci k hf
          split at h
          · rename_i fs hfs
            split at h
            · rename_i hw
              obtain ⟨g1, g2⟩ := sw_ob (c := c) hI hfs
              try dsimp only
              try rw [hf]
              try dsimp only
              rw [g1]
              try dsimp only
              rw [if_pos hw, sw_put hI g2]
              exact sw_go (in_put hI g2 ck_obj) h
            · cases h
          · cases h
        · cases h
      · cases h
    · cases h
  case iastore =>
    dsimp only [qStep] at h ⊢
    split at h
    · rename_i h1
      rw [if_pos h1]
      split at h
      · split at h
        · rename_i n f hf
          split at h
          · cases h
          · rename_i hw
            obtain ⟨g1, g2⟩ := sw_ai (c := c) hI hf
            try dsimp only
            rw [g1]
            try dsimp only
            rw [if_neg (show ¬ (_ ∨ ¬ _ < (qSw c s).1) from hw), sw_put hI g2]
            exact sw_go (in_put hI g2 ck_int) h
        · cases h
      · cases h
    · cases h
  case aastore =>
    dsimp only [qStep] at h ⊢
    split at h
    · rename_i h1
      rw [if_pos h1]
      split at h
      · rename_i v i a st'
        split at h
        · rename_i n f hf
          split at h
          · cases h
          · rename_i hw
            obtain ⟨g1, g2⟩ := sw_aq (c := c) hI hf
            have hq : qcls s v = some 0 := Classical.byContradiction fun z => hw (Or.inr z)
            obtain ⟨g3, g4⟩ := sw_cls (c := c) hI hq
            have hn : ¬ (i < 0 ∨ n ≤ i.toNatClampNeg) := fun z => hw (Or.inl z)
            try dsimp only
            rw [g1]
            try dsimp only
            rw [if_neg (by rw [g3]; rintro (z | z); · exact hn z
                           · exact z rfl), sw_put hI g2]
            refine sw_go (in_put hI g2 (ck_ref (fun j hj => ?_))) h
            obtain ⟨e1, -⟩ := qaq_ok hf
            have := hI.2.2.2 a 5 n f e1 j hj
            unfold va_up
            rw [if_neg (by have : n ≤ j := hj; omega)]
            exact this
        · cases h
      · cases h
    · cases h
  case newarray t =>
    dsimp only [qStep] at h ⊢
    split at h
    · rename_i h1
      rw [if_pos h1]
      split at h
      · split at h
        · rename_i k hk2
          split at h
          · cases h
          · rename_i hw
            try dsimp only
            try rw [hk2]
            try dsimp only
            rw [if_neg (show ¬ (_ ∨ _ ∨ ¬ (qSw c s).2.1 = 0 ∨ 1000 ≤ (qSw c s).1) from hw), sw_new hI]
            exact sw_go (in_new hI (by omega) ck_zero) h
        · cases h
      · cases h
    · cases h
  case anewarray i =>
    dsimp only [qStep] at h ⊢
    split at h
    · rename_i h1
      rw [if_pos h1]
      split at h
      · split at h
        · cases h
        · rename_i hw
          try dsimp only
          rw [if_neg (show ¬ (_ ∨ _ ∨ ¬ (qSw c s).2.1 = 0 ∨ 1000 ≤ (qSw c s).1 ∨ _) from hw), sw_new hI]
          exact sw_go (in_new hI (by omega) (ck_ref (fun _ _ => rfl))) h
      · cases h
    · cases h
  case multianewarray i d =>
    dsimp only [qStep] at h ⊢
    split at h
    · rename_i h1
      rw [if_pos h1]
      split at h
      · split at h
        · rename_i hw
          obtain ⟨g1, g2⟩ := sw_man (c := c) hI hw.2.2.2
          try dsimp only
          rw [if_pos (show _ ∧ _ ∧ (qSw c s).2.1 = 0 ∧ (qSw c s).1 + 7 ≤ 1000 from hw), g1]
          exact sw_go g2 h
        · cases h
      · cases h
    · cases h
  case new i =>
    dsimp only [qStep] at h ⊢
    split at h
    · rename_i h1
      rw [if_pos h1]
      cases hn : qTn M.1 i with
      | some ci =>
        rw [hn] at h
        dsimp only at h ⊢
        split at h
        · rename_i hw
          rw [if_pos (show (qSw c s).2.1 = 0 ∧ (qSw c s).1 < 1000 from hw), sw_new hI]
          exact sw_go (in_new hI hw.2 ck_obj) h
        · cases h
      | none =>
        rw [hn] at h
        exfalso
        have hk' : (qTn M.1 i).isSome = true := hk
        rw [hn] at hk'
        cases hk'
    · cases h
  case invokespecial i =>
    dsimp only [qStep] at h ⊢
    split at h
    · rename_i h1
      rw [if_pos h1]
      split at h
      · rename_i mo C n hc
        split at h
        · rename_i as a rest ha
          split at h
          · rename_i hcat
            try dsimp only
            try rw [hc]
            try dsimp only
            try rw [ha]
            try dsimp only
            rw [if_pos hcat]
            split at h
            · rename_i hmo
              rw [if_pos hmo]
              split at h
              · rename_i ci hci
                obtain ⟨g1, g2⟩ := sw_cls (c := c) hI hci
                rw [g1]
                try dsimp only
                split at h
                · rename_i hC
                  rw [if_pos hC]
                  cases h
                  exact ⟨trivial, rfl⟩
                · cases h
              · cases h
            · rename_i hmo
              rw [if_neg hmo]
              split at h
              · rename_i h7
                rw [if_pos h7]
                split at h
                · rename_i h8
                  rw [if_pos h8]
                  exact sw_go hI h
                · cases h
              · rename_i h7
                rw [if_neg h7]
                split at h
                · rename_i h9
                  rw [if_pos h9]
                  split at h
                  · rename_i ci hci
                    obtain ⟨g1, g2⟩ := sw_cls (c := c) hI hci
                    rw [g1]
                    try dsimp only
                    split at h
                    · rename_i hC
                      rw [if_pos hC]
                      cases h
                      exact ⟨trivial, rfl⟩
                    · cases h
                  · cases h
                · cases h
          · cases h
        · cases h
      · cases h
    · cases h
  case return_ =>
    dsimp only [qStep] at h ⊢
    split at h
    · rename_i h1
      rw [if_pos h1]
      split at h
      · split at h
        · rename_i h2
          rw [if_pos h2]
          cases h
          exact ⟨hI, rfl⟩
        · cases h
      · cases h
    · cases h
end SWS
