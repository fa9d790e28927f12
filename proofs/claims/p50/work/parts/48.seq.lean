/-! SEQUENCES: degrees in falling order -/
/-- d is put among the first j of o, from behind -/
def insf (d : Int) : Nat → (Int → Int) → Int → Int
  | 0, o => fun i => if i = 0 then d else o i
  | j + 1, o => if o (j : Int) < d then insf d j (fun i => if i = (j : Int) + 1 then o (j : Int) else o i) else fun i => if i = (j : Int) + 1 then d else o i
def srt (d : Int → Int) : Nat → Int → Int
  | 0 => fun _ => 0
  | j + 1 => insf (d (j : Int)) j (srt d j)
theorem insf_0 (d : Int) (o : Int → Int) (i : Int) : insf d 0 o i = if i = 0 then d else o i := rfl
theorem insf_s (d : Int) (j : Nat) (o : Int → Int) (i : Int) : insf d (j + 1) o i = if o (j : Int) < d then insf d j (fun i => if i = (j : Int) + 1 then o (j : Int) else o i) i else if i = (j : Int) + 1 then d else o i := by
  show (if o (j : Int) < d then insf d j (fun i => if i = (j : Int) + 1 then o (j : Int) else o i) else fun i => if i = (j : Int) + 1 then d else o i) i = _
  by_cases h : o (j : Int) < d
  · rw [if_pos h, if_pos h]
  · rw [if_neg h, if_neg h]
theorem insf_be (d : Int) : ∀ (j : Nat) (o : Int → Int) (i : Int), (j : Int) < i → insf d j o i = o i := by
  intro j
  induction j with
  | zero => intro o i hi; rw [insf_0, if_neg (by omega)]
  | succ j ih =>
    intro o i hi
    rw [insf_s]
    split
    · rw [ih _ _ (by omega), if_neg (by omega)]
    · rw [if_neg (by omega)]
theorem insf_cg (d : Int) : ∀ (j : Nat) (o o' : Int → Int), (∀ i, 0 ≤ i → i < (j : Int) → o i = o' i) → ∀ i, 0 ≤ i → i ≤ (j : Int) → insf d j o i = insf d j o' i
  | 0, o, o', h, i, h1, h2 => by
    have : i = 0 := by omega
    subst this
    rw [insf_0, insf_0, if_pos rfl, if_pos rfl]
  | j + 1, o, o', h, i, h1, h2 => by
    rw [insf_s, insf_s, h (j : Int) (by omega) (by omega)]
    by_cases hc : o' (j : Int) < d
    · rw [if_pos hc, if_pos hc]
      by_cases hi : i = (j : Int) + 1
      · rw [insf_be _ _ _ _ (by omega), insf_be _ _ _ _ (by omega), if_pos hi, if_pos hi]
      · exact insf_cg d j _ _ (fun k k1 k2 => by
          show (if k = (j : Int) + 1 then o' (j : Int) else o k) = (if k = (j : Int) + 1 then o' (j : Int) else o' k)
          rw [if_neg (by omega), if_neg (by omega), h k k1 (by omega)]) i h1 (by omega)
    · rw [if_neg hc, if_neg hc]
      by_cases hi : i = (j : Int) + 1
      · rw [if_pos hi, if_pos hi]
      · rw [if_neg hi, if_neg hi, h i h1 (by omega)]
theorem insf_r (d : Int) (B : Int) (hd : 0 ≤ d ∧ d ≤ B) : ∀ (j : Nat) (o : Int → Int), (∀ i, 0 ≤ i → i < (j : Int) → 0 ≤ o i ∧ o i ≤ B) → ∀ i, 0 ≤ i → i ≤ (j : Int) → 0 ≤ insf d j o i ∧ insf d j o i ≤ B
  | 0, o, h, i, h1, h2 => by
    rw [insf_0, if_pos (by omega)]
    exact hd
  | j + 1, o, h, i, h1, h2 => by
    rw [insf_s]
    have hj := h (j : Int) (by omega) (by omega)
    split
    · by_cases hi : i = (j : Int) + 1
      · rw [insf_be d j _ i (by omega), if_pos hi]
        exact hj
      · exact insf_r d B hd j _ (fun k k1 k2 => by
          show 0 ≤ (if k = (j : Int) + 1 then o (j : Int) else o k) ∧ (if k = (j : Int) + 1 then o (j : Int) else o k) ≤ B
          rw [if_neg (by omega)]
          exact h k k1 (by omega)) i h1 (by omega)
    · by_cases hi : i = (j : Int) + 1
      · rw [if_pos hi]
        exact hd
      · rw [if_neg hi]
        exact h i h1 (by omega)
theorem srt_r (d : Int → Int) (B : Int) (hd : ∀ i, 0 ≤ d i ∧ d i ≤ B) : ∀ (j : Nat) (i : Int), 0 ≤ i → i < (j : Int) → 0 ≤ srt d j i ∧ srt d j i ≤ B
  | 0, i, h1, h2 => by omega
  | j + 1, i, h1, h2 => insf_r _ B (hd _) j _ (srt_r d B hd j) i h1 (by omega)
def SQ (μ : qMu) (q : Nat) (j : Nat) (d : Int → Int) : Prop := rd μ q 3 = (j : Int) ∧ rd μ q 4 = rs d 0 (j : Int) ∧ (∀ i, 0 ≤ i → i < (j : Int) → rd μ (q + 1) i = d i) ∧ ∀ i, 0 ≤ i → i < (j : Int) → rd μ (q + 2) i = srt d j i
def slk (o : Int → Int) (N k : Int) : Int := k * (k - 1) + rs (fun i => if i < k then -(o i) else if o i < k then o i else k) 0 N
section SEQ
variable {μ : qMu} {n : Nat} {N m : Int} {c t : Int → Int → Int}
theorem x_ins {q : Nat} {d : Int} : ∀ (j : Nat) (ν : qMu) (k : Nat), j < 8 → j < k → (∀ i, 0 ≤ i → i < (j : Int) → 0 ≤ rd ν (q + 2) i ∧ rd ν (q + 2) i ≤ 1000) → (0 ≤ d ∧ d ≤ 1000) → ∃ p ν', lp (fun x : Int × qMu => bX6_insertFalling_5 n q d x.1 x.2) k ((j : Int), ν) = some (p, ν') ∧ (0 ≤ p ∧ p ≤ (j : Int)) ∧ Fr [q + 2] ν ν' ∧ ∀ i, rd (up ν' (q + 2) p d) (q + 2) i = insf d j (fun i => rd ν (q + 2) i) i := by
  intro j
  induction j with
  | zero =>
    intro ν k hj hk h hd
    obtain ⟨k', rfl⟩ : ∃ k', k = k' + 1 := ⟨k - 1, by omega⟩
    refine ⟨0, ν, ?_, by omega, Fr.rf _ _, fun i => ?_⟩
    · rw [lp_s]
      have : bX6_insertFalling_5 n q d ((0 : Nat) : Int) ν = some (.inr (0, ν)) := by
        simp (disch := omega) only [bX6_insertFalling_5, wr_id, if_neg]
        rfl
      dsimp only
      rw [this]
      rfl
    · rw [insf_0]
      by_cases hi : i = 0
      · rw [if_pos hi, hi, rd_at]
        exact wr_id (by omega) (by omega)
      · rw [if_neg hi, rd_ni hi]
  | succ j ih =>
    intro ν k hj hk h hd
    obtain ⟨k', rfl⟩ : ∃ k', k = k' + 1 := ⟨k - 1, by omega⟩
    have hb := h (j : Int) (by omega) (by omega)
    by_cases hc : rd ν (q + 2) (j : Int) < d
    · have e1 : bX6_insertFalling_5 n q d ((j + 1 : Nat) : Int) ν = some (.inl (((j + 1 : Nat) : Int) + (-1), up ν (q + 2) ((j + 1 : Nat) : Int) (rd ν (q + 2) (j : Int)))) := by
        have e0 : ((j + 1 : Nat) : Int) - 1 = (j : Int) := by omega
        simp (disch := omega) only [bX6_insertFalling_5, wr_id, if_pos, qLd_in, qSa_in, Option.bind_some, e0]
      obtain ⟨p, ν', r1, r2, r3, r4⟩ := ih (up ν (q + 2) ((j + 1 : Nat) : Int) (rd ν (q + 2) (j : Int))) k' (by omega) (by omega) (fun i i1 i2 => by rw [rd_ni (by omega)]; exact h i i1 (by omega)) hd
      refine ⟨p, ν', ?_, by omega, (Fr.up (by simp)).tr r3, fun i => ?_⟩
      · rw [lp_s]
        dsimp only
        rw [e1, show ((j + 1 : Nat) : Int) + (-1) = (j : Int) by omega]
        exact r1
      · rw [r4 i]
        rw [insf_s, if_pos hc]
        congr 1
        funext i
        rw [rd_up]
        by_cases hi : i = (j : Int) + 1
        · rw [if_pos ⟨rfl, by omega⟩, if_pos hi, wr_rd]
        · rw [if_neg (by omega), if_neg hi]
    · have e1 : bX6_insertFalling_5 n q d ((j + 1 : Nat) : Int) ν = some (.inr (((j + 1 : Nat) : Int), ν)) := by
        have e0 : ((j + 1 : Nat) : Int) - 1 = (j : Int) := by omega
        simp (disch := omega) only [bX6_insertFalling_5, wr_id, if_pos, if_neg, qLd_in, Option.bind_some, e0]
      refine ⟨((j + 1 : Nat) : Int), ν, ?_, by omega, Fr.rf _ _, fun i => ?_⟩
      · rw [lp_s]
        dsimp only
        rw [e1]
        rfl
      · rw [insf_s, if_neg hc, rd_up]
        by_cases hi : i = (j : Int) + 1
        · rw [if_pos ⟨rfl, by omega⟩, if_pos hi]
          exact wr_id (by omega) (by omega)
        · rw [if_neg (by omega), if_neg hi]
theorem x_append {q j : Nat} {d : Int → Int} (hn : 5000 ≤ n) (h : SQ μ q j d) (hj : j < 8) (hd : ∀ i, 0 ≤ d i ∧ d i ≤ 1000) : ∃ μ', fX6_append n q (d (j : Int)) μ = some μ' ∧ SQ μ' q (j + 1) d ∧ Fr [q, q + 1, q + 2] μ μ' := by
  obtain ⟨h1, h2, h3, h4⟩ := h
  have hs : 0 ≤ rs d 0 (j : Int) ∧ rs d 0 (j : Int) ≤ 8000 := by
    refine ⟨rs_nn (fun k _ _ => (hd k).1), ?_⟩
    have h1 : rs d 0 (j : Int) ≤ rs (fun _ => (1000 : Int)) 0 (j : Int) := rs_le (fun k _ _ => (hd k).2)
    have h2 : ∀ l : Nat, ∀ a : Int, sl (fun _ => (1000 : Int)) a l = 1000 * (l : Int) := by
      intro l
      induction l with
      | zero => intro a; rfl
      | succ l ih => intro a; unfold sl; rw [ih]; omega
    have h3 : rs (fun _ => (1000 : Int)) 0 (j : Int) = 1000 * (j : Int) := by
      unfold rs
      rw [h2]
      omega
    omega
  have hdj := hd (j : Int)
  obtain ⟨p, ν, r1, r2, r3, r4⟩ := x_ins (n := n) (q := q) (d := d (j : Int)) j (up μ (q + 1) (j : Int) (d (j : Int))) n hj (by omega) (fun i i1 i2 => by rw [rd_na (by omega), h4 i i1 i2]; exact srt_r d 1000 hd j i i1 i2) hdj
  have e1 : ∀ i, rd ν q i = rd μ q i := fun i => by rw [rd_cg (r3 q (by simp)) i, rd_na (by omega)]
  refine ⟨up (up (up ν (q + 2) p (d (j : Int))) q 3 ((j : Int) + 1)) q 4 (rs d 0 (j : Int) + d (j : Int)), ?_, ⟨?_, ?_, fun i i1 i2 => ?_, fun i i1 i2 => ?_⟩, ?_⟩
  · simp (disch := omega) only [fX6_append, fX6_isFull, h1, wr_id, if_pos, Option.bind_some, qSa_in, fX6_insertFalling, rd_na, r1, e1, qPf_eq, rd_ni, h2, ite_true]
  · rw [rd_ni (by omega), rd_at]
    exact wr_id (by omega) (by omega)
  · rw [rd_at, show ((j + 1 : Nat) : Int) = (j : Int) + 1 by omega, rs_last (by omega)]
    exact wr_id (by omega) (by omega)
  · rw [rd_na (by omega), rd_na (by omega), rd_na (by omega), rd_cg (r3 (q + 1) (by simp)) i]
    by_cases hi : i = (j : Int)
    · rw [hi, rd_at]
      exact wr_id (by omega) (by omega)
    · rw [rd_ni hi]
      exact h3 i i1 (by omega)
  · rw [rd_na (by omega), rd_na (by omega), r4 i]
    show _ = insf (d (j : Int)) j (srt d j) i
    refine insf_cg _ j _ _ (fun k k1 k2 => ?_) i i1 (by omega)
    rw [rd_na (by omega)]
    exact h4 k k1 k2
  · have f1 : Fr [q, q + 1, q + 2] μ (up μ (q + 1) (j : Int) (d (j : Int))) := Fr.up (by simp)
    exact (((f1.tr (r3.wk (by simp))).tr (Fr.up (by simp))).tr (Fr.up (by simp))).tr (Fr.up (by simp))
theorem x_clearS {q : Nat} {d : Int → Int} : ∃ μ', fX6_clear q μ = some μ' ∧ SQ μ' q 0 d ∧ Fr [q, q + 1, q + 2] μ μ' := by
  refine ⟨up (up μ q 3 0) q 4 0, rfl, ⟨?_, ?_, fun i i1 i2 => by omega, fun i i1 i2 => by omega⟩, (Fr.up (by simp)).tr (Fr.up (by simp))⟩
  · rw [rd_ni (by omega), rd_at]
    rfl
  · rw [rd_at]
    rfl
theorem Vd.dg1 (hV : Vd N c) (i : Int) : 0 ≤ dgs c i ∧ dgs c i ≤ 1000 := by
  have := hV.dg i
  omega
theorem x_take {q g : Nat} (hn : 5000 ≤ n) (h : GX μ g N c) (hV : Vd N c) (hg : (g < q ∨ q + 2 < g) ∧ (g + 1 < q ∨ q + 2 < g + 1)) : ∃ μ', fX6_take n q g μ = some μ' ∧ SQ μ' q N.toNat (dgs c) ∧ Fr [q, q + 1, q + 2] μ μ' := by
  have hN := hV.N
  obtain ⟨μ1, q1, q2, q3⟩ := x_clearS (μ := μ) (q := q) (d := dgs c)
  obtain ⟨b, r1, r2, r3⟩ := lp_inv (f := fun x : Int × qMu => bX6_take_6 n q g x.1 x.2) (fun k x => ∃ j : Nat, x.1 = (j : Int) ∧ x.1 = N - (k : Int) ∧ SQ x.2 q j (dgs c) ∧ Fr [q, q + 1, q + 2] μ x.2) (fun y => SQ y q N.toNat (dgs c) ∧ Fr [q, q + 1, q + 2] μ y) (by
    rintro k ⟨i, ν⟩ ⟨j, h4, h5, h6, h7⟩
    dsimp only at h4 h5 h6 h7
    subst h4
    have hX : GX ν g N c := h.kp (h7 g (by simp; omega)) (h7 (g + 1) (by simp; omega))
    by_cases hi : (j : Int) < N
    · right
      obtain ⟨ν', s1, s2, s3⟩ := x_append hn h6 (by omega) hV.dg1
      refine ⟨k - 1, ((j : Int) + 1, ν'), ?_, by omega, j + 1, by dsimp only; omega, by dsimp only; omega, s2, h7.tr s3⟩
      simp (disch := omega) only [bX6_take_6, fX1_vertexCount, hX.1, Option.bind_some, wr_id, if_pos, x_degreeOf hn hX hV, s1]
    · left
      have hj : j = N.toNat := by omega
      subst hj
      refine ⟨ν, ?_, h6, h7⟩
      simp (disch := omega) only [bX6_take_6, fX1_vertexCount, hX.1, Option.bind_some, wr_id, if_neg]) n N.toNat (0, μ1) ⟨0, rfl, by dsimp only; omega, q2, q3⟩ (by omega)
  refine ⟨b, ?_, r2, r3⟩
  simp only [fX6_take, q1, Option.bind_some, r1]
theorem x_slackOf {q j : Nat} {d : Int → Int} (hn : 5000 ≤ n) (h : SQ μ q j d) (hj : j ≤ 8) (hd : ∀ i, 0 ≤ d i ∧ d i ≤ 1000) {k : Int} (hk : 0 ≤ k ∧ k ≤ 100) : fX6_slackOf n q k μ = some (slk (srt d j) (j : Int) k) := by
  have hb : ∀ z i, 0 ≤ i → i < (j : Int) → bX6_slackOf_8 n q k z i μ = some (.inl (z + (if i < k then -(srt d j i) else if srt d j i < k then srt d j i else k), i + 1)) := by
    intro z i h1 h2
    have hr := srt_r d 1000 hd j i h1 h2
    have e := h.2.2.2 i h1 h2
    by_cases hc : i < k
    · simp (disch := omega) only [bX6_slackOf_8, h.1, wr_id, if_pos, qLd_in, Option.bind_some, e]
    · simp (disch := omega) only [bX6_slackOf_8, h.1, wr_id, if_pos, if_neg, qLd_in, Option.bind_some, e, mn_id]
  have he : ∀ z, bX6_slackOf_8 n q k z (j : Int) μ = some (.inr z) := by
    intro z
    simp (disch := omega) only [bX6_slackOf_8, h.1, wr_id, if_neg]
  simp only [fX6_slackOf]
  rw [lp_rs2 0 hb he (by omega) (by omega) (by omega)]
  rfl
end SEQ
