/-! WHO CAN BE REALISED: the class alone -/
theorem rs_le8 {f : Int → Int} {N K : Int} (hN : 0 ≤ N ∧ N ≤ 8) (hK : 1 ≤ K) (h : ∀ i, 0 ≤ i → i < N → f i ≤ K) : rs f 0 N + rs (fun _ => (1 : Int)) N 8 ≤ 8 * K := by
  have h1 : rs f 0 N ≤ rs (fun _ => K) 0 N := rs_le h
  have h2 : rs (fun _ => K) 0 8 = rs (fun _ => K) 0 N + rs (fun _ => K) N 8 := rs_cut hN.1 hN.2
  have h3 : rs (fun _ => (1 : Int)) N 8 ≤ rs (fun _ => K) N 8 := rs_le (fun _ _ _ => hK)
  have h4 : rs (fun _ => K) 0 8 = K + (K + (K + (K + (K + (K + (K + K)))))) := by
    rw [rs_step (by omega), rs_step (by omega), rs_step (by omega), rs_step (by omega), rs_step (by omega), rs_step (by omega), rs_step (by omega), rs_step (by omega), rs_end (by omega), Int.add_zero]
  omega
theorem rs_z (N : Int) : 0 ≤ rs (fun _ => (1 : Int)) N 8 := rs_nn (fun _ _ _ => by omega)
theorem hand {N : Int} {c : Int → Int → Int} (hV : Vd N c) : rs (dgs c) 0 N = 2 * Ed c := by
  have hN := hV.N
  have hs := hV.2.2.1
  have e : ∀ f : Int → Int, rs f 0 8 = f 0 + (f 1 + (f 2 + (f 3 + (f 4 + (f 5 + (f 6 + f 7)))))) := by
    intro f
    rw [rs_step (by omega), rs_step (by omega), rs_step (by omega), rs_step (by omega), rs_step (by omega), rs_step (by omega), rs_step (by omega), rs_step (by omega), rs_end (by omega), Int.add_zero]
    rfl
  have e2 : Ed c = (c 0 0 + c 0 1 + c 0 2 + c 0 3 + c 0 4 + c 0 5 + c 0 6 + c 0 7) + (c 1 1 + c 1 2 + c 1 3 + c 1 4 + c 1 5 + c 1 6 + c 1 7) + (c 2 2 + c 2 3 + c 2 4 + c 2 5 + c 2 6 + c 2 7) + (c 3 3 + c 3 4 + c 3 5 + c 3 6 + c 3 7) + (c 4 4 + c 4 5 + c 4 6 + c 4 7) + (c 5 5 + c 5 6 + c 5 7) + (c 6 6 + c 6 7) + c 7 7 := by
    unfold Ed
    rw [e]
    have st : ∀ (u a : Int), a < 8 → rs (fun v => c u v) a 8 = c u a + rs (fun v => c u v) (a + 1) 8 := fun u a h => rs_step h
    have en : ∀ u, rs (fun v => c u v) 8 8 = 0 := fun u => rs_end (Int.le_refl _)
    simp only [st _ 0 (by decide), st _ (0 + 1) (by decide), st _ (0 + 1 + 1) (by decide), st _ (0 + 1 + 1 + 1) (by decide), st _ (0 + 1 + 1 + 1 + 1) (by decide), st _ (0 + 1 + 1 + 1 + 1 + 1) (by decide), st _ (0 + 1 + 1 + 1 + 1 + 1 + 1) (by decide), st _ (0 + 1 + 1 + 1 + 1 + 1 + 1 + 1) (by decide), st _ 1 (by decide), st _ 2 (by decide), st _ 3 (by decide), st _ 4 (by decide), st _ 5 (by decide), st _ 6 (by decide), st _ 7 (by decide), en, Int.reduceAdd]
    omega
  have e3 : rs (dgs c) 0 N = rs (dgs c) 0 8 := (rs_tail (by omega) hN.2 (fun k k1 k2 => hV.dz k1)).symm
  rw [e3, e, e2]
  unfold dgs
  simp only [e]
  have h10 := hs 1 0; have h20 := hs 2 0; have h30 := hs 3 0; have h40 := hs 4 0; have h50 := hs 5 0; have h60 := hs 6 0; have h70 := hs 7 0
  have h21 := hs 2 1; have h31 := hs 3 1; have h41 := hs 4 1; have h51 := hs 5 1; have h61 := hs 6 1; have h71 := hs 7 1
  have h32 := hs 3 2; have h42 := hs 4 2; have h52 := hs 5 2; have h62 := hs 6 2; have h72 := hs 7 2
  have h43 := hs 4 3; have h53 := hs 5 3; have h63 := hs 6 3; have h73 := hs 7 3
  have h54 := hs 5 4; have h64 := hs 6 4; have h74 := hs 7 4
  have h65 := hs 6 5; have h75 := hs 7 5
  have h76 := hs 7 6
  omega
def pos (md N : Int) (d : Int → Int) : Prop := (md = 1 → 2 * srt d N.toNat 0 ≤ rs d 0 N) ∧ (md = 2 → ∀ k, 1 ≤ k → k ≤ N → 0 ≤ slk (srt d N.toNat) N k)
theorem slk_r {o : Int → Int} {N k : Int} (hN : 0 ≤ N ∧ N ≤ 8) (ho : ∀ i, 0 ≤ i → i < N → 0 ≤ o i ∧ o i ≤ 1000) (hk : 0 ≤ k ∧ k ≤ 9) : -10000 ≤ slk o N k ∧ slk o N k ≤ 10000 := by
  have h1 : 0 ≤ k * (k - 1) ∧ k * (k - 1) ≤ 72 := by
    have : k = 0 ∨ k = 1 ∨ k = 2 ∨ k = 3 ∨ k = 4 ∨ k = 5 ∨ k = 6 ∨ k = 7 ∨ k = 8 ∨ k = 9 := by omega
    rcases this with rfl | rfl | rfl | rfl | rfl | rfl | rfl | rfl | rfl | rfl <;> decide
  have h2 := rs_le8 (f := fun i => if i < k then -(o i) else if o i < k then o i else k) (K := 1000) hN (by omega) (fun i i1 i2 => by
    have := ho i i1 i2
    by_cases q : i < k
    · rw [if_pos q]
      omega
    · rw [if_neg q]
      split <;> omega)
  have h3 := rs_le8 (f := fun i => -(if i < k then -(o i) else if o i < k then o i else k)) (K := 1000) hN (by omega) (fun i i1 i2 => by
    have := ho i i1 i2
    by_cases q : i < k
    · rw [if_pos q]
      omega
    · rw [if_neg q]
      split <;> omega)
  have h4 : rs (fun i => (if i < k then -(o i) else if o i < k then o i else k) + -(if i < k then -(o i) else if o i < k then o i else k)) 0 N = rs (fun i => if i < k then -(o i) else if o i < k then o i else k) 0 N + rs (fun i => -(if i < k then -(o i) else if o i < k then o i else k)) 0 N := rs_add
  have h5 : rs (fun i => (if i < k then -(o i) else if o i < k then o i else k) + -(if i < k then -(o i) else if o i < k then o i else k)) 0 N = 0 := rs_zero (fun i _ _ => Int.add_right_neg _)
  have h6 := rs_z N
  unfold slk
  omega
section REA
variable {μ ν : qMu} {n : Nat} {N m md : Int} {d : Int → Int} {c t : Int → Int → Int}
theorem x_hasNo (hn : 5000 ≤ n) (hN : 1 ≤ N ∧ N ≤ 8) (h : SQ μ 22 N.toNat d) (hd : ∀ i, 0 ≤ d i ∧ d i ≤ 1000) : ∃ b, fX6_hasNoNegativeSlack n 22 μ = some b ∧ (b = 1 ∧ (∀ k, 1 ≤ k → k ≤ N → 0 ≤ slk (srt d N.toNat) N k) ∨ b = 0 ∧ ¬ ∀ k, 1 ≤ k → k ≤ N → 0 ≤ slk (srt d N.toNat) N k) := by
  have eN : ((N.toNat : Nat) : Int) = N := by omega
  have h0 : rd μ 22 3 = N := h.1.trans eN
  obtain ⟨y, r1, r2⟩ := lp_inv (f := fun x : Int => bX6_hasNoNegativeSlack_2 n 22 x μ) (fun k z => (z = N + 1 - (k : Int) ∧ 1 ≤ z) ∧ ∀ k', 1 ≤ k' → k' < z → 0 ≤ slk (srt d N.toNat) N k') (fun y => y = .inl () ∧ (∀ k, 1 ≤ k → k ≤ N → 0 ≤ slk (srt d N.toNat) N k) ∨ y = .inr 0 ∧ ¬ ∀ k, 1 ≤ k → k ≤ N → 0 ≤ slk (srt d N.toNat) N k) (by
    rintro k z ⟨⟨h4, h5⟩, h6⟩
    by_cases hz : N < z
    · left
      refine ⟨.inl (), ?_, Or.inl ⟨rfl, fun k' k1 k2 => h6 k' k1 (by omega)⟩⟩
      simp (disch := omega) only [bX6_hasNoNegativeSlack_2, h0, wr_id, if_pos]
    · have hs := x_slackOf hn h (by omega) hd (k := z) (by omega)
      rw [eN] at hs
      have hr := slk_r (o := srt d N.toNat) (N := N) (k := z) (by omega) (fun i i1 i2 => srt_r d 1000 hd N.toNat i i1 (by omega)) (by omega)
      by_cases q : slk (srt d N.toNat) N z < 0
      · left
        refine ⟨.inr 0, ?_, Or.inr ⟨rfl, fun q' => by have := q' z h5 (by omega); omega⟩⟩
        simp (disch := omega) only [bX6_hasNoNegativeSlack_2, h0, wr_id, if_pos, if_neg, hs, Option.bind_some]
      · right
        refine ⟨k - 1, z + 1, ?_, by omega, ⟨by omega, by omega⟩, fun k' k1 k2 => ?_⟩
        · simp (disch := omega) only [bX6_hasNoNegativeSlack_2, h0, wr_id, if_neg, hs, Option.bind_some]
        · by_cases e : k' = z
          · rw [e]
            omega
          · exact h6 k' k1 (by omega)) n N.toNat 1 ⟨⟨by omega, by omega⟩, fun k' k1 k2 => by omega⟩ (by omega)
  rcases r2 with ⟨rfl, r2⟩ | ⟨rfl, r2⟩
  · refine ⟨1, ?_, Or.inl ⟨rfl, r2⟩⟩
    simp only [fX6_hasNoNegativeSlack, r1, Option.bind_some, Sum.elim_inl]
  · refine ⟨0, ?_, Or.inr ⟨rfl, r2⟩⟩
    simp only [fX6_hasNoNegativeSlack, r1, Option.bind_some, Sum.elim_inr]
theorem x_allows (hn : 5000 ≤ n) (hN : 1 ≤ N ∧ N ≤ 8) (h : SQ μ 22 N.toNat d) (hd : ∀ i, 0 ≤ d i ∧ d i ≤ 1000) (h32 : rs d 0 N ≤ 32) (he : rs d 0 N % 2 = 0) (hm : 0 ≤ md ∧ md ≤ 2) : ∃ b, fX6_allows n 22 md μ = some b ∧ (b = 1 ∧ pos md N d ∨ b = 0 ∧ ¬ pos md N d) := by
  have eN : ((N.toNat : Nat) : Int) = N := by omega
  have h0 : rd μ 22 3 = N := h.1.trans eN
  have h1 : rd μ 22 4 = rs d 0 N := by
    have := h.2.1
    rw [eN] at this
    exact this
  have hnn : 0 ≤ rs d 0 N := rs_nn (fun i _ _ => (hd i).1)
  have h2 : rd μ 24 0 = srt d N.toNat 0 := h.2.2.2 0 (by omega) (by omega)
  have h3 := srt_r d 1000 hd N.toNat 0 (by omega) (by omega)
  obtain ⟨-, dv⟩ := dv2 (k := rs d 0 N) (by omega)
  rw [he] at dv
  have hc : md = 0 ∨ md = 1 ∨ md = 2 := by omega
  rcases hc with rfl | rfl | rfl
  · refine ⟨1, ?_, Or.inl ⟨rfl, fun q => by omega, fun q => by omega⟩⟩
    simp (disch := omega) only [fX6_allows, h1, dv, wr_id, if_pos, if_neg, ite_true]
  · by_cases q : rs d 0 N - srt d N.toNat 0 < srt d N.toNat 0
    · refine ⟨0, ?_, Or.inr ⟨rfl, fun q' => by have := q'.1 rfl; omega⟩⟩
      simp (disch := omega) only [fX6_allows, h1, dv, wr_id, if_pos, if_neg, ite_true, h0, qLd_in, h2, Option.bind_some]
    · refine ⟨1, ?_, Or.inl ⟨rfl, fun _ => by omega, fun q => by omega⟩⟩
      simp (disch := omega) only [fX6_allows, h1, dv, wr_id, if_pos, if_neg, ite_true, h0, qLd_in, h2, Option.bind_some]
  · obtain ⟨b, q1, q2⟩ := x_hasNo hn hN h hd
    rcases q2 with ⟨rfl, q2⟩ | ⟨rfl, q2⟩
    · refine ⟨1, ?_, Or.inl ⟨rfl, fun q => by omega, fun _ => q2⟩⟩
      simp (disch := omega) only [fX6_allows, h1, dv, wr_id, if_pos, if_neg, ite_true, q1, Option.bind_some]
    · refine ⟨0, ?_, Or.inr ⟨rfl, fun q => q2 (q.2 rfl)⟩⟩
      simp (disch := omega) only [fX6_allows, h1, dv, wr_id, if_pos, if_neg, ite_true, q1, Option.bind_some]
end REA
theorem x_parts {μ : qMu} {n : Nat} {N : Int} {c : Int → Int → Int} {g : Nat} (hn : 5000 ≤ n) (h : GX μ g N c) (hV : Vd N c) (hg : g ≠ 19 ∧ g ≠ 20 ∧ g + 1 ≠ 19 ∧ g + 1 ≠ 20) : ∃ μ', fX4_find n g μ = some μ' ∧ Fr [19, 20] μ μ' ∧ fX4_count n μ' = some (nco N c) := by
  have hN := hV.N
  obtain ⟨μ', h1, h2, h3, h4⟩ := x_find hn h hV hg
  have h5 : ∀ v, (0 ≤ v ∧ v < N) → rd μ' 20 v = Lb N c v := fun v hv => h4.uniq (Lb_ok hV) hv
  refine ⟨μ', h1, h2, ?_⟩
  simp only [fX4_count, h3]
  rw [x_countBefore hn hN h3 (by omega)]
  show some _ = _
  rw [idx_cg h5 (Int.le_refl _)]
  rfl
