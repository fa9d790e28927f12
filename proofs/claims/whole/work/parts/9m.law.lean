/-! the law as one run of the small machine -/
theorem qshok_eq {μ : qMu} {h : qHp} {a : Nat} {q : qSh} (hk : qShOk (h a) q = true) (hn : ∀ t n f, h a = .inr (t, n, .inr (.inr (.inr (.inr f)))) → ∀ j, n ≤ j → f j = none) (hμ : ∀ i, μ a i = qRd h a i) : h a = qCl μ a q := by
  obtain ⟨q0, q1, q2, fl⟩ := q
  generalize hc : h a = c at hk hn
  have hr : ∀ i, μ a i = qRd (fun _ => c) a i := fun i => by rw [hμ i]; unfold qRd; rw [hc]
  rcases c with ⟨c', fs⟩ | ⟨t', n', v⟩
  · unfold qShOk at hk
    split at hk
    · rename_i c1 fs1 c0 z fl1 e1 e2
      cases e1
      cases e2
      simp only [Bool.and_eq_true, decide_eq_true_eq, List.all_eq_true, List.mem_range] at hk
      obtain ⟨⟨h1, h2⟩, h3⟩ := hk
      subst h1
      show Sum.inl (c', fs) = Sum.inl (c', qFl μ a fl)
      congr 2
      apply List.ext_getElem?
      intro k
      unfold qFl
      rw [List.getElem?_mapIdx]
      by_cases hlt : k < fl.length
      · have := h3 k hlt
        split at this
        · rename_i b b' e1 e2
          rw [e1, e2]
          have hb : b = b' := of_decide_eq_true this
          subst hb
          rfl
        · rename_i x e1 e2
          rw [e1, e2]
          show some (Value.int x) = some (Value.int (μ a (k : Int)))
          rw [hr]
          unfold qRd
          dsimp only
          rw [Int.toNat_natCast, e2]
        · cases this
      · rw [List.getElem?_eq_none (by omega), List.getElem?_eq_none (by omega)]
        rfl
    · rename_i e1 e2
      cases e1
    · rename_i e1 e2
      cases e1
    · cases hk
  · unfold qShOk at hk
    split at hk
    · rename_i e1 e2
      cases e1
    · rename_i t1 n1 f t0 n0 fl1 e1 e2
      cases e1
      cases e2
      simp only [Bool.and_eq_true, decide_eq_true_eq] at hk
      obtain ⟨rfl, rfl⟩ := hk
      show Sum.inr (t', n', Sum.inl f) = Sum.inr (t', n', Sum.inl fun j : Nat => μ a (j : Int))
      congr 4
      funext j
      rw [hr]
      unfold qRd
      dsimp only
      rw [Int.toNat_natCast]
    · rename_i t1 n1 f t0 n0 fl1 e1 e2
      cases e1
      cases e2
      simp only [Bool.and_eq_true, decide_eq_true_eq, List.all_eq_true, List.mem_range] at hk
      obtain ⟨⟨⟨h1, h2⟩, h3⟩, h4⟩ := hk
      subst h1
      subst h2
      show Sum.inr (t', n', Sum.inr (Sum.inr (Sum.inr (Sum.inr f)))) = Sum.inr (t', n', Sum.inr (Sum.inr (Sum.inr (Sum.inr fun j => fl.getD j none))))
      congr 7
      funext j
      by_cases hj : j < n'
      · exact h4 j hj
      · rw [hn _ _ _ rfl j (by omega), List.getD_eq_getElem?_getD, List.getElem?_eq_none (by omega)]
        rfl
    · cases hk
theorem qs0_in : qIn qs0 := ⟨Nat.zero_le _, rfl, fun a _ h => if_neg h, fun a t n f h => by
  have h' : qh0 a = _ := h
  unfold qh0 at h'
  split at h' <;> cases h'⟩
def qMu0 (h : qHp) (xs : Nat → Int32) : qMu := fun a i => if a = 1001000 then xs i.toNat else if a < 92 then qRd h a i else 0
theorem qMu0_lt {h : qHp} {xs : Nat → Int32} {a : Nat} (ha : a < 92) (i : Int) : qMu0 h xs a i = qRd h a i := by
  unfold qMu0
  rw [if_neg (by omega), if_pos ha]
theorem qheap0 {h : qHp} {Ls : Nat} {xs : Nat → Int32} (hk : ∀ a, a < 92 → qShOk (h a) (qShp.getD a (9, 0, 0, [])) = true) (hI : qIn (92, 0, 9812, h)) : qup (qup h 1001000 (.inr (0, Ls, .inl xs))) 92 (.inr (4, qzero 4 1)) = cH Ls (qMu0 h xs) := by
  funext a
  by_cases h1 : a = 92
  · subst h1
    have e : qShp[92]? = some (3, 4, 1, []) := by decide +kernel
    rw [cH_at e]
    unfold qup
    rw [if_pos rfl]
    rfl
  unfold qup
  rw [if_neg h1]
  by_cases h2 : a = 1001000
  · subst h2
    rw [if_pos rfl]
    unfold cH qMu0
    rw [if_pos rfl]
    congr 4
  rw [if_neg h2]
  by_cases h3 : a < 92
  · have e : qShp[a]? = some (qShp.getD a (9, 0, 0, [])) := by
      rw [List.getD_eq_getElem?_getD, List.getElem?_eq_getElem (by rw [qShp_len]; omega)]
      rfl
    rw [cH_at e]
    exact qshok_eq (hk a h3) (hI.2.2.2 a) (fun i => qMu0_lt h3 i)
  · have e : qShp[a]? = none := List.getElem?_eq_none (by rw [qShp_len]; omega)
    unfold cH
    rw [if_neg h2, e]
    exact hI.2.2.1 a (by show 92 ≤ a; omega) h2
theorem Ed_zc : Ed zc = 0 := by decide +kernel
theorem Vd_1 : Vd 1 zc := ⟨by decide, fun _ _ => Int.le_refl _, fun _ _ => rfl, fun _ _ h => absurd rfl h, by rw [Ed_zc]; decide⟩
theorem qRQ0 {h : qHp} {xs : Nat → Int32} (hv : qVal h = true) : RQ (qMu0 h xs) := by
  unfold qVal at hv
  simp only [Bool.and_eq_true, decide_eq_true_eq, List.all_eq_true, List.mem_range] at hv
  obtain ⟨⟨h1, h2⟩, h3⟩ := hv
  have e : ∀ (a : Nat) (i : Int) (v : Int32), a < 92 → qRd h a i = v → rd (qMu0 h xs) a i = v.toInt := fun a i v ha hq => by
    unfold rd
    rw [qMu0_lt ha, hq]
  have g : ∀ (a : Nat) (i : Int) (v : Int32), (a, i, v) ∈ ([(11, 1, 1), (13, 1, 1), (11, 2, 0), (13, 2, 0), (0, 11, 0), (32, 3, 0), (32, 4, 0), (78, 3, 0), (1, 5, 0), (78, 6, 0), (1, 7, 0), (78, 7, 0), (1, 8, -1), (78, 8, -1), (76, 1, 0), (78, 26, 0), (79, 0, 1)] : List (Nat × Int × Int32)) → a < 92 → rd (qMu0 h xs) a i = v.toInt := fun a i v hm ha => e a i v ha (h1 _ hm)
  have z12 : ∀ i : Int, 0 ≤ i → i < 64 → rd (qMu0 h xs) 12 i = 0 ∧ rd (qMu0 h xs) 14 i = 0 := fun i i0 i1 => by
    obtain ⟨a1, a2⟩ := h2 i.toNat (by omega)
    rw [Int.toNat_of_nonneg i0] at a1 a2
    exact ⟨e 12 i 0 (by decide) a1, e 14 i 0 (by decide) a2⟩
  have z79 : ∀ i : Int, 1 ≤ i → i < 130 → rd (qMu0 h xs) 79 i = 0 := fun i i0 i1 => by
    have a1 := h3 (i - 1).toNat (by omega)
    rw [Int.toNat_of_nonneg (by omega), show i - 1 + 1 = i from by omega] at a1
    exact e 79 i 0 (by decide) a1
  refine ⟨(1, 0, zc, zc), 0, 0, fun _ => (1, 0, zc, zc), ⟨Vd_1, Vd_1, by decide, by decide⟩, ⟨⟨⟨g 11 1 1 (by decide) (by decide), fun u v hu hv => (z12 _ (by omega) (by omega)).1⟩, ?_⟩, ⟨⟨g 13 1 1 (by decide) (by decide), fun u v hu hv => (z12 _ (by omega) (by omega)).2⟩, ?_⟩, g 0 11 0 (by decide) (by decide)⟩, ⟨g 79 0 1 (by decide) (by decide), z79 1 (by decide) (by decide), fun u v hu hv => z79 _ (by omega) (by omega), fun u v hu hv => z79 _ (by omega) (by omega)⟩,
    ⟨by decide, g 32 3 0 (by decide) (by decide), g 32 4 0 (by decide) (by decide), fun j hj => by omega⟩, ⟨by decide, g 78 3 0 (by decide) (by decide), fun j hj => by omega⟩, fun j hj => by omega,
    ⟨0, fun _ => 0, ⟨g 1 5 0 (by decide) (by decide), fun i i0 i1 => by omega⟩, ⟨g 78 6 0 (by decide) (by decide), fun i i0 i1 => by omega⟩, by decide, fun i i0 i1 => by omega⟩, ⟨?_, ?_⟩, ⟨(0, fun _ => 0), ⟨g 76 1 0 (by decide) (by decide), fun i (i0 : 0 ≤ i) (i1 : i < 0) => by omega⟩, ⟨g 78 26 0 (by decide) (by decide), fun i (i0 : 0 ≤ i) (i1 : i < 0) => by omega⟩, ⟨by decide, fun i (i0 : 0 ≤ i) (i1 : i < 0) => by omega⟩, by decide⟩⟩
  · rw [Ed_zc]
    exact g 11 2 0 (by decide) (by decide)
  · rw [Ed_zc]
    exact g 13 2 0 (by decide) (by decide)
  · rw [g 1 7 0 (by decide) (by decide), g 78 7 0 (by decide) (by decide)]
  · rw [g 1 8 (-1) (by decide) (by decide), g 78 8 (-1) (by decide) (by decide)]
theorem qlaw {Ls : Nat} (hLs : Ls ≤ 3072) (xs : Nat → Int32) : ∃ n t' μ', t' ≤ 512 ∧ qExec n 9 mL_law 0 (qen 9 [.ref 1001000]) [] (qSw (.inr (0, Ls, .inl xs)) qs0) = some (.inl (some (iv 1)), cS Ls t' μ') := by
  have hC := qChk_ok
  unfold qChk at hC
  generalize hr : qIt = r at hC
  rcases r with _ | ⟨L, st, s⟩
  · cases hC
  simp only [Bool.and_eq_true, decide_eq_true_eq, List.all_eq_true, List.mem_range] at hC
  obtain ⟨⟨⟨⟨⟨⟨h1, h2⟩, h3⟩, h4⟩, h5⟩, h6⟩, h7⟩ := hC
  obtain ⟨s1, s2, s3, h⟩ := s
  dsimp only at h3 h4 h5 h6 h7
  subst h1; subst h2; subst h3; subst h4; subst h5
  obtain ⟨hI, hgo⟩ := qU_sw (c := .inr (0, Ls, .inl xs)) 4000 mL_law 0 (qen 9 [.ref 1001000]) [] qs0 hr qs0_in
  have hheap := qheap0 (Ls := Ls) (xs := xs) h6 hI
  obtain ⟨t', μ', ht, hE⟩ := ev_loop (d := 0) (n := 5000) (Nat.le_refl _) hLs 512 0 0 (qMu0 h xs) (qRQ0 h7) (Int.le_refl _) (by omega) (by decide)
  have hE2 : Ev 9 mL_law 17 qL17 [iv 1] (qSw (.inr (0, Ls, .inl xs)) (92, 0, 9812, h)) (.inl (some (iv 1))) (cS Ls t' μ') := by
    refine ev_pu (pc' := 19) (s1 := cS Ls 0 (qMu0 h xs)) (st' := [.ref 92]) dL_law_17 (fun L' => ?_) ?_
    · have e : qnew (qSw (.inr (0, Ls, .inl xs)) (92, 0, 9812, h)) (.inr (4, qzero 4 1)) 1 = cS Ls 0 (qMu0 h xs) := by
        show (93, 0, 9813, qup (qup h 1001000 (.inr (0, Ls, .inl xs))) 92 (.inr (4, qzero 4 1))) = _
        rw [hheap]
        rfl
      rw [← e]
      rfl
    refine ev_astore_n (pc' := 20) (L1 := [some (.ref 1001000), some (.ref 0), some (.ref 78), some (.ref 92), none, none, none, none, none]) dL_law_19 rfl rfl ?_
    refine ev_iconst (pc' := 21) dL_law_20 rfl ?_
    exact ev_istore (pc' := 23) (L1 := lwL 0) dL_law_21 rfl rfl hE
  obtain ⟨k, hk⟩ := hgo _ _ (hE2 qL17 (qLe_rf _))
  exact ⟨k, t', μ', by omega, hk⟩
