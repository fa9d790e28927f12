/-! the constructors' run: by fuel; only a few instructions; no throw -/
def qRun : Nat → Nat → qM → Nat → qLo → List Value → qSt → Option qSt
  | 0, _, _, _, _, _, _ => none
  | n + 1, d, M, pc, L, st, s => match decode M.2.2.1 pc with
    | .error _ => none
    | .ok (ins, len) => if qOk M ins = true then (match qStep M pc ins len L st s with
      | none => none
      | some (.inl (pc', L', st', s')) => qRun n d M pc' L' st' s'
      | some (.inr (.inl y)) => (match y.1 with
        | .inl none => some y.2
        | _ => none)
      | some (.inr (.inr (_, C, as, rest))) => if qok C as = true then (match d with
        | 0 => none
        | d' + 1 => (match qRun n d' C 0 (qen C.2.2.2.1 as) [] s with
          | none => none
          | some s' => qRun n (d' + 1) M (pc + 3) L rest s')) else none) else none
/-- the law's own frame up to a place -/
def qU (stop : Nat) : Nat → qM → Nat → qLo → List Value → qSt → Option (qLo × List Value × qSt)
  | 0, _, _, _, _, _ => none
  | n + 1, M, pc, L, st, s => if pc = stop then some (L, st, s) else match decode M.2.2.1 pc with
    | .error _ => none
    | .ok (ins, len) => if qOk M ins = true then (match qStep M pc ins len L st s with
      | none => none
      | some (.inl (pc', L', st', s')) => qU stop n M pc' L' st' s'
      | some (.inr (.inl _)) => none
      | some (.inr (.inr (_, C, as, rest))) => if qok C as = true then (match qRun n 8 C 0 (qen C.2.2.2.1 as) [] s with
          | none => none
          | some s' => qU stop n M (pc + 3) L rest s') else none) else none
theorem qrun_sw {c : qMC} : ∀ (n d : Nat) (M : qM) (pc : Nat) (L : qLo) (st : List Value) (s s' : qSt), qRun n d M pc L st s = some s' → qIn s → qIn s' ∧ qExec n d M pc L st (qSw c s) = some (.inl none, qSw c s') := by
  intro n
  induction n with
  | zero => intro d M pc L st s s' h; cases h
  | succ n ih =>
    intro d M pc L st s s' h hI
    unfold qRun at h
    unfold qExec
    split at h
    · cases h
    · rename_i ins len hd
      rw [hd]
      dsimp only
      split at h
      · rename_i hk
        split at h
        · cases h
        · rename_i pc' L' st' s1 hs
          obtain ⟨h1, h2⟩ := qstep_sw (c := c) hI hk hs
          rw [h2]
          exact ih _ _ _ _ _ _ _ h h1
        · rename_i y hs
          obtain ⟨h1, h2⟩ := qstep_sw (c := c) hI hk hs
          rw [h2]
          split at h
          · rename_i hy
            cases h
            refine ⟨h1, ?_⟩
            obtain ⟨y1, y2⟩ := y
            dsimp only at hy
            subst hy
            rfl
          · cases h
        · rename_i i C as rest hs
          obtain ⟨h1, h2⟩ := qstep_sw (c := c) hI hk hs
          rw [h2]
          dsimp only [qrSw]
          split at h
          · rename_i hok
            rw [if_pos hok]
            split at h
            · cases h
            · rename_i d'
              split at h
              · cases h
              · rename_i s1 hr
                obtain ⟨g1, g2⟩ := ih _ _ _ _ _ _ _ hr hI
                dsimp only
                rw [g2]
                exact ih _ _ _ _ _ _ _ h g1
          · cases h
      · cases h
theorem qU_sw {c : qMC} {stop : Nat} {L2 : qLo} {st2 : List Value} {s2 : qSt} : ∀ (n : Nat) (M : qM) (pc : Nat) (L : qLo) (st : List Value) (s : qSt), qU stop n M pc L st s = some (L2, st2, s2) → qIn s → qIn s2 ∧ ∀ (o : qO) (s' : qSt), (∃ k, qExec k 9 M stop L2 st2 (qSw c s2) = some (o, s')) → ∃ k, qExec k 9 M pc L st (qSw c s) = some (o, s') := by
  intro n
  induction n with
  | zero => intro M pc L st s h; cases h
  | succ n ih =>
    intro M pc L st s h hI
    unfold qU at h
    split at h
    · rename_i hp
      cases h
      subst hp
      exact ⟨hI, fun o s' hk => hk⟩
    · split at h
      · cases h
      · rename_i ins len hd
        split at h
        · rename_i hk
          split at h
          · cases h
          · rename_i pc' L' st' s1 hs
            obtain ⟨h1, h2⟩ := qstep_sw (c := c) hI hk hs
            obtain ⟨g1, g2⟩ := ih _ _ _ _ _ h h1
            refine ⟨g1, fun o s' hq => ?_⟩
            obtain ⟨k, hq⟩ := g2 o s' hq
            refine ⟨k + 1, ?_⟩
            unfold qExec
            rw [hd]
            dsimp only
            rw [h2]
            exact hq
          · cases h
          · rename_i i C as rest hs
            obtain ⟨h1, h2⟩ := qstep_sw (c := c) hI hk hs
            split at h
            · rename_i hok
              split at h
              · cases h
              · rename_i s1 hr
                obtain ⟨f1, f2⟩ := qrun_sw (c := c) _ _ _ _ _ _ _ _ hr hI
                obtain ⟨g1, g2⟩ := ih _ _ _ _ _ h f1
                refine ⟨g1, fun o s' hq => ?_⟩
                obtain ⟨k, hq⟩ := g2 o s' hq
                refine ⟨n + k + 1, ?_⟩
                unfold qExec
                rw [hd]
                dsimp only
                rw [h2]
                dsimp only [qrSw]
                rw [if_pos hok, qexec_up n (n + k) _ _ _ _ _ _ _ (by omega) f2]
                exact qexec_up k (n + k) _ _ _ _ _ _ _ (by omega) hq
            · cases h
        · cases h
def qh0 : qHp := fun a => if a = 1001000 then .inl (99, []) else qd0 a
def qs0 : qSt := (0, 0, 0, qh0)
def qIt : Option (qLo × List Value × qSt) := qU 21 4000 mL_law 0 (qen 5 [.ref 1001000]) [] qs0
def qShOk (c : qMC) (q : qSh) : Bool := match c, q with
  | .inl (c', fs), (0, c0, _, fl) => decide (c' = c0) && decide (fs.length = fl.length) && (List.range fl.length).all (fun k => match fl[k]?, fs[k]? with
    | some (some b), some (.ref b') => decide (b = b')
    | some none, some (.int _) => true
    | _, _ => false)
  | .inr (t', n', .inl _), (1, t, n, _) => decide (t' = t) && decide (n' = n)
  | .inr (t', n', .inr (.inr (.inr (.inr f)))), (2, t, n, fl) => decide (t' = t) && decide (n' = n) && decide (n = fl.length) && (List.range n).all (fun j => decide (f j = fl.getD j none))
  | _, _ => false
def qRd (h : qHp) (a : Nat) (i : Int) : Int32 := match h a with
  | .inl (_, fs) => (match fs[i.toNat]? with
    | some (.int x) => x
    | _ => 0)
  | .inr (_, _, .inl f) => f i.toNat
  | _ => 0
def qVal (h : qHp) : Bool := decide (qRd h 78 1 = 0) && decide (qRd h 1 5 = 0) && (List.range 6).all (fun a => (List.range 6).all (fun j => decide (qRd h (81 + a) (j : Int) = 0)))
def qL21 : qLo := [some (.ref 1001000), some (.ref 78), some (.ref 0), none, none]
def qChk : Bool := match qIt with
  | none => false
  | some (L, st, s) => decide (L = qL21) && decide (st = []) && decide (s.1 = 87) && decide (s.2.1 = 0) && decide (s.2.2.1 = 3504) && (List.range 87).all (fun a => qShOk (s.2.2.2 a) (qShp.getD a (9, 0, 0, []))) && qVal s.2.2.2
theorem qChk_ok : qChk = true := by decide +kernel
