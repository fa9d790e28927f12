/-! the law as one run of the small machine -/
theorem qshok_eq {μ : qMu} {h : qHp} {a : Nat} {q : qSh} (hk : qShOk (h a) q = true) (hn : ∀ t n f, h a = .inr (t, n, .inr (.inr (.inr (.inr f)))) → ∀ j, n ≤ j → f j = none) (hμ : ∀ i, μ a i = qRd h a i) : h a = qCl μ a q := by
  obtain ⟨q0, q1, q2, fl⟩ := q
  generalize hc : h a = c at hk hn
  have hr : ∀ i, μ a i = qRd (fun _ => c) a i := fun i => by rw [hμ i]; unfold qRd; rw [hc]
  rcases c with ⟨c', fs⟩ | ⟨t', n', v⟩
  · unfold qShOk at hk
    split at hk
    · rename_i c1 fs1 c0 z fl1 e1 e2
      cases e1
      cases e2
      simp only [Bool.and_eq_true, decide_eq_true_eq, List.all_eq_true, List.mem_range] at hk
      obtain ⟨⟨h1, h2⟩, h3⟩ := hk
      subst h1
      show Sum.inl (c', fs) = Sum.inl (c', qFl μ a fl)
      congr 2
      apply List.ext_getElem?
      intro k
      unfold qFl
      rw [List.getElem?_mapIdx]
      by_cases hlt : k < fl.length
      · have := h3 k hlt
        split at this
        · rename_i b b' e1 e2
          rw [e1, e2]
          have hb : b = b' := of_decide_eq_true this
          subst hb
          rfl
        · rename_i x e1 e2
          rw [e1, e2]
          show some (Value.int x) = some (Value.int (μ a (k : Int)))
          rw [hr]
          unfold qRd
          dsimp only
          rw [Int.toNat_natCast, e2]
        · cases this
      · rw [List.getElem?_eq_none (by omega), List.getElem?_eq_none (by omega)]
        rfl
    · rename_i e1 e2
      cases e1
    · rename_i e1 e2
      cases e1
    · cases hk
  · unfold qShOk at hk
    split at hk
    · rename_i e1 e2
      cases e1
    · rename_i t1 n1 f t0 n0 fl1 e1 e2
      cases e1
      cases e2
      simp only [Bool.and_eq_true, decide_eq_true_eq] at hk
      obtain ⟨rfl, rfl⟩ := hk
      show Sum.inr (t', n', Sum.inl f) = Sum.inr (t', n', Sum.inl fun j : Nat => μ a (j : Int))
      congr 4
      funext j
      rw [hr]
      unfold qRd
      dsimp only
      rw [Int.toNat_natCast]
    · rename_i t1 n1 f t0 n0 fl1 e1 e2
      cases e1
      cases e2
      simp only [Bool.and_eq_true, decide_eq_true_eq, List.all_eq_true, List.mem_range] at hk
      obtain ⟨⟨⟨h1, h2⟩, h3⟩, h4⟩ := hk
      subst h1
      subst h2
      show Sum.inr (t', n', Sum.inr (Sum.inr (Sum.inr (Sum.inr f)))) = Sum.inr (t', n', Sum.inr (Sum.inr (Sum.inr (Sum.inr fun j => fl.getD j none))))
      congr 7
      funext j
      by_cases hj : j < n'
      · exact h4 j hj
      · rw [hn _ _ _ rfl j (by omega), List.getD_eq_getElem?_getD, List.getElem?_eq_none (by omega)]
        rfl
    · cases hk
theorem qs0_in : qIn qs0 := ⟨Nat.zero_le _, rfl, fun a _ h => if_neg h, fun a t n f h => by
  have h' : qh0 a = _ := h
  unfold qh0 at h'
  split at h'
  · cases h'
  · unfold qd0 at h'
    split at h'
    · cases h'
    · split at h' <;> cases h'⟩
def qMu0 (h : qHp) (xs : Nat → Int32) : qMu := fun a i => if a = 1001000 then xs i.toNat else if a < 87 then qRd h a i else 0
theorem qMu0_lt {h : qHp} {xs : Nat → Int32} {a : Nat} (ha : a < 87) (i : Int) : qMu0 h xs a i = qRd h a i := by
  unfold qMu0
  rw [if_neg (by omega), if_pos ha]
theorem qMu0_hi {h : qHp} {xs : Nat → Int32} {a : Nat} (ha : 87 ≤ a) (hn : a ≠ 1001000) (i : Int) : qMu0 h xs a i = 0 := by
  unfold qMu0
  rw [if_neg hn, if_neg (by omega)]
theorem qheap0 {h : qHp} {Ls : Nat} {xs : Nat → Int32} (hk : ∀ a, a < 87 → qShOk (h a) (qShp.getD a (9, 0, 0, [])) = true) (hI : qIn (87, 0, 3504, h)) : qup h 1001000 (.inr (0, Ls, .inl xs)) = cH Ls (qMu0 h xs) := by
  funext a
  unfold qup
  by_cases h2 : a = 1001000
  · subst h2
    rw [if_pos rfl]
    unfold cH qMu0
    rw [if_pos rfl]
    congr 4
  rw [if_neg h2]
  by_cases h3 : a < 87
  · have e : qShp[a]? = some (qShp.getD a (9, 0, 0, [])) := by
      rw [List.getD_eq_getElem?_getD, List.getElem?_eq_getElem (by rw [qShp_len]; omega)]
      rfl
    rw [cH_at e]
    exact qshok_eq (hk a h3) (hI.2.2.2 a) (fun i => qMu0_lt h3 i)
  · have hz : h a = qd0 a := hI.2.2.1 a (by rw [qPm_hi (by omega)]; show 87 ≤ a; omega) h2
    have e : qShp[a]? = none := List.getElem?_eq_none (by rw [qShp_len]; omega)
    rw [hz]
    unfold cH qd0
    rw [if_neg h2, if_neg h3, e]
    by_cases h4 : a < 2000
    · rw [if_pos h4]
      show _ = if a < 2000 then qJc (qMu0 h xs) a else _
      rw [if_pos h4]
      have k0 : qJk (qMu0 h xs) a = 0 := by
        unfold qJk
        rw [qMu0_hi (by omega) (by omega)]
        rfl
      have l0 : qJl (qMu0 h xs) a = 0 := by
        unfold qJl
        rw [qMu0_hi (by omega) (by omega)]
        rfl
      unfold qJc
      rw [k0, l0]
      show _ = Sum.inr (0, 0, Sum.inl fun j : Nat => qMu0 h xs a (j : Int))
      congr 4
      funext j
      rw [qMu0_hi (by omega) h2]
    · rw [if_neg h4]
      show _ = if a < 2000 then qJc (qMu0 h xs) a else _
      rw [if_neg h4]
theorem qlaw {Ls : Nat} (hLs : Ls ≤ 5000) (xs : Nat → Int32) : ∃ n t' μ', t' ≤ 3 ∧ qJn μ' ≤ 300 ∧ qJs μ' ≤ 40000 ∧ qExec n 9 mL_law 0 (qen 5 [.ref 1001000]) [] (qSw (.inr (0, Ls, .inl xs)) qs0) = some (.inl (some (iv 1)), cS Ls t' μ') := by
  have hC := qChk_ok
  unfold qChk at hC
  generalize hr : qIt = r at hC
  rcases r with _ | ⟨L, st, s⟩
  · cases hC
  simp only [Bool.and_eq_true, decide_eq_true_eq, List.all_eq_true, List.mem_range] at hC
  obtain ⟨⟨⟨⟨⟨⟨h1, h2⟩, h3⟩, h4⟩, h5⟩, h6⟩, h7⟩ := hC
  obtain ⟨s1, s2, s3, h⟩ := s
  dsimp only at h3 h4 h5 h6 h7
  subst h1; subst h2; subst h3; subst h4; subst h5
  obtain ⟨hI, hgo⟩ := qU_sw (c := .inr (0, Ls, .inl xs)) 4000 mL_law 0 (qen 5 [.ref 1001000]) [] qs0 hr qs0_in
  have hheap := qheap0 (Ls := Ls) (xs := xs) h6 hI
  have n0 : qJn (qMu0 h xs) = 0 ∧ qJs (qMu0 h xs) = 0 := by
    unfold qJn qJs
    rw [qMu0_hi (by omega) (by decide), qMu0_hi (by omega) (by decide)]
    exact ⟨rfl, rfl⟩
  unfold qVal at h7
  simp only [Bool.and_eq_true, decide_eq_true_eq, List.all_eq_true, List.mem_range] at h7
  obtain ⟨⟨v1, v2⟩, v3⟩ := h7
  have e : ∀ (a : Nat) (i : Int), a < 87 → qRd h a i = 0 → rd (qMu0 h xs) a i = 0 := fun a i ha hq => by
    unfold rd
    rw [qMu0_lt ha, hq]
    rfl
  obtain ⟨t', μ', x1, x2, x3, x4⟩ := x_law (n := 5000) (μ := qMu0 h xs) (Nat.le_refl _) hLs (e 78 1 (by decide) v1) n0 (fun a a1 a2 i i1 i2 => by
    have := v3 (a - 81) (by omega) i.toNat (by omega)
    rw [show 81 + (a - 81) = a by omega, show ((i.toNat : Nat) : Int) = i by omega] at this
    exact e a i (by omega) this) (e 1 5 (by decide) v2)
  have hE := eL_law (d := 0) (Ls := Ls) (t := 0) hLs rfl x1
  have hs : qSw (.inr (0, Ls, .inl xs)) (87, 0, 3504, h) = cS Ls 0 (qMu0 h xs) := by
    unfold cS
    rw [n0.1, n0.2, ← hheap]
    rfl
  obtain ⟨k, hk⟩ := hgo (.inl (some (iv 1))) (cS Ls t' μ') (by
    rw [hs]
    exact hE qL21 (qLe_rf _))
  exact ⟨k, t', μ', x2, x3, x4, hk⟩
