/-! POSSIBLE, REALISE -/
def pos (md N : Int) (d : Int → Int) : Prop := (md = 1 → 2 * srt d N.toNat 0 ≤ rs d 0 N) ∧ (md = 2 → ∀ k, 1 ≤ k → k ≤ N → 0 ≤ slk (srt d N.toNat) N k)
theorem Vd.zero {N : Int} (hN : 1 ≤ N ∧ N ≤ 8) : Vd N (fun _ _ => 0) := ⟨hN, fun _ _ => Int.le_refl _, fun _ _ => rfl, fun _ _ q => absurd rfl q, by show (0 : Int) ≤ 16; omega⟩
theorem JJ0 {N S0 : Int} {d : Int → Int} (hN : 1 ≤ N ∧ N ≤ 8) (hd : ∀ i, 0 ≤ d i ∧ d i ≤ 1000) (hs : rs d 0 N = S0) : JJ N S0 d (fun _ _ => 0) := by
  refine ⟨Vd.zero hN, fun i _ _ => (hd i).1, ?_⟩
  have : Ed (fun _ _ => (0 : Int)) = 0 := rfl
  omega
theorem gs_1 {N S0 : Int} {d : Int → Int} (hN : 1 ≤ N ∧ N ≤ 8) (hd : ∀ i, 0 ≤ d i ∧ d i ≤ 1000) (hs : rs d 0 N = S0) (h32 : S0 ≤ 32) (he : S0 % 2 = 0) (hp : pos 1 N d) : GS N 1 16 d (fun _ _ => 0) := by
  refine gs1 h32 16 d _ (JJ0 hN hd hs) (by omega) (fun i i1 i2 => ?_) (by omega)
  have h1 := hp.1 rfl
  have h2 : ∀ i, 0 ≤ i → i < ((N.toNat : Nat) : Int) → srt d N.toNat i ≤ rs d 0 N / 2 := fun i i1 i2 => by
    have := srt_top (d := d) (j := N.toNat) i.toNat (by omega)
    rw [show ((i.toNat : Nat) : Int) = i by omega] at this
    omega
  have := srt_all h2 i i1 (by omega)
  omega
theorem gs_2 {N S0 : Int} {d : Int → Int} (hN : 1 ≤ N ∧ N ≤ 8) (hd : ∀ i, 0 ≤ d i ∧ d i ≤ 1000) (hs : rs d 0 N = S0) (h32 : S0 ≤ 32) (he : S0 % 2 = 0) (hp : pos 2 N d) : GS N 2 8 d (fun _ _ => 0) := by
  have eN : ((N.toNat : Nat) : Int) = N := by omega
  have ho : ∀ i, 0 ≤ i → i < N → 0 ≤ srt d N.toNat i := fun i i1 i2 => (srt_r d 1000 hd N.toNat i i1 (by omega)).1
  have hk := slk8 hN ho (hp.2 rfl)
  have cut : ∀ g : Int → Int, (∀ i, N ≤ i → i < 8 → g i = 0) → rs g 0 8 = rs g 0 N := fun g hg => rs_tail (by omega) hN.2 hg
  have h70 : (fun i => if i < N then srt d N.toNat i else 0) 0 ≤ 7 := by
    have h1 := hk 1 (by omega) (by omega)
    unfold slk at h1
    have one : ∀ x : Int, (if x < 1 then x else 1) ≤ 1 := fun x => by split <;> omega
    have e : rs (fun i => if i < 1 then -(if i < N then srt d N.toNat i else 0) else if (if i < N then srt d N.toNat i else 0) < 1 then (if i < N then srt d N.toNat i else 0) else 1) 0 8 = -(if (0 : Int) < N then srt d N.toNat 0 else 0) + rs (fun i => if i < 1 then -(if i < N then srt d N.toNat i else 0) else if (if i < N then srt d N.toNat i else 0) < 1 then (if i < N then srt d N.toNat i else 0) else 1) 1 8 := by
      rw [rs_step (by omega)]
      rfl
    have e2 : rs (fun i => if i < 1 then -(if i < N then srt d N.toNat i else 0) else if (if i < N then srt d N.toNat i else 0) < 1 then (if i < N then srt d N.toNat i else 0) else 1) 1 8 ≤ rs (fun _ => (1 : Int)) 1 8 := rs_le (fun i i1 i2 => by
      rw [if_neg (show ¬ i < 1 by omega)]
      exact one _)
    have e3 : rs (fun _ => (1 : Int)) 1 8 = 7 := rfl
    show (if (0 : Int) < N then srt d N.toNat 0 else 0) ≤ 7
    rw [e] at h1
    omega
  have hv0 : rs (fun i => if i < N then srt d N.toNat i else 0) 0 8 = S0 := by
    rw [cut _ (fun i i1 i2 => if_neg (by omega))]
    have e1 : rs (fun i => if i < N then srt d N.toNat i else 0) 0 N = rs (fun i => srt d N.toNat i) 0 N := rs_congr (fun i i1 i2 => if_pos i2)
    have e2 := srt_sum (fun x => x) d N.toNat
    rw [eN] at e2
    rw [e1, ← hs]
    exact e2
  obtain ⟨u, hu, hr⟩ := vec_ok (v := fun i => if i < N then srt d N.toNat i else 0) (fun i i1 => by
    by_cases q : i < N
    · rw [if_pos q]
      exact ho i i1 q
    · rw [if_neg q]
      exact Int.le_refl _) (fun i i1 i2 => by
    by_cases q : i + 1 < N
    · rw [if_pos q, if_pos (by omega)]
      exact srt_dec d N.toNat i i1 (by omega)
    · rw [if_neg q]
      by_cases q2 : i < N
      · rw [if_pos q2]
        exact ho i i1 q2
      · rw [if_neg q2]
        exact Int.le_refl _) h70 hk (by rw [hv0]; exact he)
  have h7 : ∀ i, 0 ≤ i → i < N → d i ≤ 7 := fun i i1 i2 => by
    refine srt_all (j := N.toNat) (fun i i1 i2 => ?_) i i1 (by omega)
    have h1 := srt_top (d := d) (j := N.toNat) i.toNat (by omega)
    rw [show ((i.toNat : Nat) : Int) = i by omega] at h1
    dsimp only at h70
    rw [if_pos (by omega)] at h70
    omega
  refine gs2 h32 8 d _ u (JJ0 hN hd hs) h7 ?_ hr
  rw [hu]
  have e1 : rs (fun i => pw (if i < N then srt d N.toNat i else 0)) 0 8 = rs (fun i => pw (if i < N then srt d N.toNat i else 0)) 0 N + rs (fun i => pw (if i < N then srt d N.toNat i else 0)) N 8 := rs_cut (by omega) hN.2
  have e2 : rs (fun i => pw (if i < N then srt d N.toNat i else 0)) 0 N = rs (fun i => pw (srt d N.toNat i)) 0 N := rs_congr (fun i i1 i2 => by rw [if_pos i2])
  have e3 : rs (fun i => pw (if i < N then srt d N.toNat i else 0)) N 8 = rs (fun _ => (1 : Int)) N 8 := rs_congr (fun i i1 i2 => by rw [if_neg (by omega)]; rfl)
  have e4 := srt_sum pw d N.toNat
  rw [eN] at e4
  show HU d T0 N = rs (fun i => pw (if i < N then srt d N.toNat i else 0)) 0 8
  have e5 : HU d T0 N = rs (fun i => if T0 i = 0 then pw (d i) else 0) 0 N + rs (fun _ => (1 : Int)) N 8 := rfl
  have e6 : rs (fun i => if T0 i = 0 then pw (d i) else 0) 0 N = rs (fun i => pw (d i)) 0 N := rs_congr (fun i _ _ => if_pos rfl)
  rw [e5, e6, e1, e2, e3, e4]
