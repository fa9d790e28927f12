/-! WHO CAN BE REALISED, in both -/
theorem hand {N : Int} {c : Int → Int → Int} (hV : Vd N c) : rs (dgs c) 0 N = 2 * Ed c := by
  have hN := hV.N
  have hs := hV.2.2.1
  have e : ∀ f : Int → Int, rs f 0 8 = f 0 + (f 1 + (f 2 + (f 3 + (f 4 + (f 5 + (f 6 + f 7)))))) := by
    intro f
    rw [rs_step (by omega), rs_step (by omega), rs_step (by omega), rs_step (by omega), rs_step (by omega), rs_step (by omega), rs_step (by omega), rs_step (by omega), rs_end (by omega), Int.add_zero]
    rfl
  have e2 : Ed c = (c 0 0 + c 0 1 + c 0 2 + c 0 3 + c 0 4 + c 0 5 + c 0 6 + c 0 7) + (c 1 1 + c 1 2 + c 1 3 + c 1 4 + c 1 5 + c 1 6 + c 1 7) + (c 2 2 + c 2 3 + c 2 4 + c 2 5 + c 2 6 + c 2 7) + (c 3 3 + c 3 4 + c 3 5 + c 3 6 + c 3 7) + (c 4 4 + c 4 5 + c 4 6 + c 4 7) + (c 5 5 + c 5 6 + c 5 7) + (c 6 6 + c 6 7) + c 7 7 := by
    unfold Ed
    rw [e]
    have st : ∀ (u a : Int), a < 8 → rs (fun v => c u v) a 8 = c u a + rs (fun v => c u v) (a + 1) 8 := fun u a h => rs_step h
    have en : ∀ u, rs (fun v => c u v) 8 8 = 0 := fun u => rs_end (Int.le_refl _)
    simp only [st _ 0 (by decide), st _ (0 + 1) (by decide), st _ (0 + 1 + 1) (by decide), st _ (0 + 1 + 1 + 1) (by decide), st _ (0 + 1 + 1 + 1 + 1) (by decide), st _ (0 + 1 + 1 + 1 + 1 + 1) (by decide), st _ (0 + 1 + 1 + 1 + 1 + 1 + 1) (by decide), st _ (0 + 1 + 1 + 1 + 1 + 1 + 1 + 1) (by decide), st _ 1 (by decide), st _ 2 (by decide), st _ 3 (by decide), st _ 4 (by decide), st _ 5 (by decide), st _ 6 (by decide), st _ 7 (by decide), en, Int.reduceAdd]
    omega
  have e3 : rs (dgs c) 0 N = rs (dgs c) 0 8 := (rs_tail (by omega) hN.2 (fun k k1 k2 => hV.dz k1)).symm
  rw [e3, e, e2]
  unfold dgs
  simp only [e]
  have h10 := hs 1 0; have h20 := hs 2 0; have h30 := hs 3 0; have h40 := hs 4 0; have h50 := hs 5 0; have h60 := hs 6 0; have h70 := hs 7 0
  have h21 := hs 2 1; have h31 := hs 3 1; have h41 := hs 4 1; have h51 := hs 5 1; have h61 := hs 6 1; have h71 := hs 7 1
  have h32 := hs 3 2; have h42 := hs 4 2; have h52 := hs 5 2; have h62 := hs 6 2; have h72 := hs 7 2
  have h43 := hs 4 3; have h53 := hs 5 3; have h63 := hs 6 3; have h73 := hs 7 3
  have h54 := hs 5 4; have h64 := hs 6 4; have h74 := hs 7 4
  have h65 := hs 6 5; have h75 := hs 7 5
  have h76 := hs 7 6
  omega
theorem m2_c (x : Nat) : ((if (x : Int) < 1 then (x : Int) else 1) = ((m2 x 1 : Nat) : Int)) ∧ ((if (x : Int) < 2 then (x : Int) else 2) = ((m2 x 2 : Nat) : Int)) ∧ ((if (x : Int) < 3 then (x : Int) else 3) = ((m2 x 3 : Nat) : Int)) ∧ ((if (x : Int) < 4 then (x : Int) else 4) = ((m2 x 4 : Nat) : Int)) ∧ ((if (x : Int) < 5 then (x : Int) else 5) = ((m2 x 5 : Nat) : Int)) ∧ ((if (x : Int) < 6 then (x : Int) else 6) = ((m2 x 6 : Nat) : Int)) ∧ ((if (x : Int) < 7 then (x : Int) else 7) = ((m2 x 7 : Nat) : Int)) ∧ ((if (x : Int) < 8 then (x : Int) else 8) = ((m2 x 8 : Nat) : Int)) := by
  unfold m2
  refine ⟨?_, ?_, ?_, ?_, ?_, ?_, ?_, ?_⟩ <;> split <;> split <;> omega
/-- a bound that the sorted ones keep, all keep -/
theorem srt_all {d : Int → Int} {j : Nat} {B : Int} (h : ∀ i, 0 ≤ i → i < (j : Int) → srt d j i ≤ B) : ∀ i, 0 ≤ i → i < (j : Int) → d i ≤ B := by
  intro i i1 i2
  have e := srt_sum (fun x => if B < x then 1 else 0) d j
  have e0 : rs (fun i => if B < srt d j i then (1 : Int) else 0) 0 (j : Int) = 0 := rs_zero (fun i i1 i2 => if_neg (by have := h i i1 i2; omega))
  have e1 : (fun i => if B < d i then (1 : Int) else 0) i ≤ rs (fun i => if B < d i then (1 : Int) else 0) 0 (j : Int) := rs_ge i1 i2 (fun k _ _ => by split <;> omega)
  have e' : rs (fun i => if B < srt d j i then (1 : Int) else 0) 0 (j : Int) = rs (fun i => if B < d i then (1 : Int) else 0) 0 (j : Int) := e
  dsimp only at e1
  by_cases q : B < d i
  · rw [if_pos q] at e1
    omega
  · omega
theorem srt_top {d : Int → Int} {j : Nat} : ∀ (i : Nat), (i : Int) < (j : Int) → srt d j (i : Int) ≤ srt d j 0
  | 0, _ => Int.le_refl _
  | i + 1, h => by
    have h1 := srt_top (d := d) (j := j) i (by omega)
    have h2 := srt_dec d j (i : Int) (by omega) (by omega)
    rw [show ((i + 1 : Nat) : Int) = (i : Int) + 1 by omega]
    omega
theorem slk8 {N : Int} {o : Int → Int} (hN : 1 ≤ N ∧ N ≤ 8) (ho : ∀ i, 0 ≤ i → i < N → 0 ≤ o i) (h : ∀ k, 1 ≤ k → k ≤ N → 0 ≤ slk o N k) : ∀ k, 1 ≤ k → k ≤ 8 → 0 ≤ slk (fun i => if i < N then o i else 0) 8 k := by
  intro k k1 k2
  have cut : ∀ g : Int → Int, (∀ i, N ≤ i → i < 8 → g i = 0) → rs g 0 8 = rs g 0 N := fun g hg => rs_tail (by omega) hN.2 hg
  unfold slk
  rw [cut _ (fun i i1 i2 => by
    dsimp only
    have hz : (if i < N then o i else 0) = 0 := if_neg (by omega)
    simp only [hz]
    rw [if_pos (show (0 : Int) < k by omega)]
    split <;> omega)]
  by_cases q : k ≤ N
  · have := h k k1 q
    unfold slk at this
    have e : rs (fun i => if i < k then -(if i < N then o i else 0) else if (if i < N then o i else 0) < k then (if i < N then o i else 0) else k) 0 N = rs (fun i => if i < k then -(o i) else if o i < k then o i else k) 0 N := rs_congr (fun i i1 i2 => by simp only [if_pos i2])
    rw [e]
    exact this
  · have := h N (by omega) (Int.le_refl _)
    unfold slk at this
    have e1 : rs (fun i => if i < N then -(o i) else if o i < N then o i else N) 0 N = rs (fun i => -(o i)) 0 N := rs_congr (fun i i1 i2 => if_pos i2)
    have e2 : rs (fun i => if i < k then -(if i < N then o i else 0) else if (if i < N then o i else 0) < k then (if i < N then o i else 0) else k) 0 N = rs (fun i => -(o i)) 0 N := rs_congr (fun i i1 i2 => by rw [if_pos (show i < k by omega)]; simp only [if_pos i2])
    rw [e1] at this
    rw [e2]
    have e3 : N * (N - 1) ≤ k * (k - 1) := Int.mul_le_mul (by omega) (by omega) (by omega) (by omega)
    omega

theorem vec_ok {v : Int → Int} (hv : ∀ i, 0 ≤ i → 0 ≤ v i) (hd : ∀ i, 0 ≤ i → i < 7 → v (i + 1) ≤ v i) (h7 : v 0 ≤ 7) (h : ∀ k, 1 ≤ k → k ≤ 8 → 0 ≤ slk v 8 k) (he : rs v 0 8 % 2 = 0) : ∃ u : Nat, (u : Int) = rs (fun i => pw (v i)) 0 8 ∧ rnN 8 u = true := by
  have e : ∀ f : Int → Int, rs f 0 8 = f 0 + (f 1 + (f 2 + (f 3 + (f 4 + (f 5 + (f 6 + f 7)))))) := by
    intro f
    rw [rs_step (by omega), rs_step (by omega), rs_step (by omega), rs_step (by omega), rs_step (by omega), rs_step (by omega), rs_step (by omega), rs_step (by omega), rs_end (by omega), Int.add_zero]
    rfl
  have d0 := hd 0 (by omega) (by omega); have d1 := hd 1 (by omega) (by omega); have d2 := hd 2 (by omega) (by omega); have d3 := hd 3 (by omega) (by omega); have d4 := hd 4 (by omega) (by omega); have d5 := hd 5 (by omega) (by omega); have d6 := hd 6 (by omega) (by omega)
  simp only [Int.reduceAdd] at d0 d1 d2 d3 d4 d5 d6
  have k1 := h 1 (by omega) (by omega); have k2 := h 2 (by omega) (by omega); have k3 := h 3 (by omega) (by omega); have k4 := h 4 (by omega) (by omega); have k5 := h 5 (by omega) (by omega); have k6 := h 6 (by omega) (by omega); have k7 := h 7 (by omega) (by omega); have k8 := h 8 (by omega) (by omega)
  unfold slk at k1 k2 k3 k4 k5 k6 k7 k8
  rw [e] at k1 k2 k3 k4 k5 k6 k7 k8 he
  rw [e]
  have c0 : v 0 = ((v 0).toNat : Int) := by
    have := hv 0 (by omega)
    omega
  have c1 : v 1 = ((v 1).toNat : Int) := by
    have := hv 1 (by omega)
    omega
  have c2 : v 2 = ((v 2).toNat : Int) := by
    have := hv 2 (by omega)
    omega
  have c3 : v 3 = ((v 3).toNat : Int) := by
    have := hv 3 (by omega)
    omega
  have c4 : v 4 = ((v 4).toNat : Int) := by
    have := hv 4 (by omega)
    omega
  have c5 : v 5 = ((v 5).toNat : Int) := by
    have := hv 5 (by omega)
    omega
  have c6 : v 6 = ((v 6).toNat : Int) := by
    have := hv 6 (by omega)
    omega
  have c7 : v 7 = ((v 7).toNat : Int) := by
    have := hv 7 (by omega)
    omega
  rw [show pw (v 0) = ((16 ^ (v 0).toNat : Nat) : Int) from rfl, show pw (v 1) = ((16 ^ (v 1).toNat : Nat) : Int) from rfl, show pw (v 2) = ((16 ^ (v 2).toNat : Nat) : Int) from rfl, show pw (v 3) = ((16 ^ (v 3).toNat : Nat) : Int) from rfl, show pw (v 4) = ((16 ^ (v 4).toNat : Nat) : Int) from rfl, show pw (v 5) = ((16 ^ (v 5).toNat : Nat) : Int) from rfl, show pw (v 6) = ((16 ^ (v 6).toNat : Nat) : Int) from rfl, show pw (v 7) = ((16 ^ (v 7).toNat : Nat) : Int) from rfl]
  generalize (v 0).toNat = s0 at *
  generalize (v 1).toNat = s1 at *
  generalize (v 2).toNat = s2 at *
  generalize (v 3).toNat = s3 at *
  generalize (v 4).toNat = s4 at *
  generalize (v 5).toNat = s5 at *
  generalize (v 6).toNat = s6 at *
  generalize (v 7).toNat = s7 at *
  rw [c0, c1, c2, c3, c4, c5, c6, c7] at he
  simp only [Int.reduceLT, ite_true, ite_false, if_true, if_false, c0, c1, c2, c3, c4, c5, c6, c7] at k1 k2 k3 k4 k5 k6 k7 k8
  have q0 := m2_c s0
  have q1 := m2_c s1
  have q2 := m2_c s2
  have q3 := m2_c s3
  have q4 := m2_c s4
  have q5 := m2_c s5
  have q6 := m2_c s6
  have q7 := m2_c s7
  simp only [(m2_c s0).1, (m2_c s0).2.1, (m2_c s0).2.2.1, (m2_c s0).2.2.2.1, (m2_c s0).2.2.2.2.1, (m2_c s0).2.2.2.2.2.1, (m2_c s0).2.2.2.2.2.2.1, (m2_c s0).2.2.2.2.2.2.2, (m2_c s1).1, (m2_c s1).2.1, (m2_c s1).2.2.1, (m2_c s1).2.2.2.1, (m2_c s1).2.2.2.2.1, (m2_c s1).2.2.2.2.2.1, (m2_c s1).2.2.2.2.2.2.1, (m2_c s1).2.2.2.2.2.2.2, (m2_c s2).1, (m2_c s2).2.1, (m2_c s2).2.2.1, (m2_c s2).2.2.2.1, (m2_c s2).2.2.2.2.1, (m2_c s2).2.2.2.2.2.1, (m2_c s2).2.2.2.2.2.2.1, (m2_c s2).2.2.2.2.2.2.2, (m2_c s3).1, (m2_c s3).2.1, (m2_c s3).2.2.1, (m2_c s3).2.2.2.1, (m2_c s3).2.2.2.2.1, (m2_c s3).2.2.2.2.2.1, (m2_c s3).2.2.2.2.2.2.1, (m2_c s3).2.2.2.2.2.2.2, (m2_c s4).1, (m2_c s4).2.1, (m2_c s4).2.2.1, (m2_c s4).2.2.2.1, (m2_c s4).2.2.2.2.1, (m2_c s4).2.2.2.2.2.1, (m2_c s4).2.2.2.2.2.2.1, (m2_c s4).2.2.2.2.2.2.2, (m2_c s5).1, (m2_c s5).2.1, (m2_c s5).2.2.1, (m2_c s5).2.2.2.1, (m2_c s5).2.2.2.2.1, (m2_c s5).2.2.2.2.2.1, (m2_c s5).2.2.2.2.2.2.1, (m2_c s5).2.2.2.2.2.2.2, (m2_c s6).1, (m2_c s6).2.1, (m2_c s6).2.2.1, (m2_c s6).2.2.2.1, (m2_c s6).2.2.2.2.1, (m2_c s6).2.2.2.2.2.1, (m2_c s6).2.2.2.2.2.2.1, (m2_c s6).2.2.2.2.2.2.2, (m2_c s7).1, (m2_c s7).2.1, (m2_c s7).2.2.1, (m2_c s7).2.2.2.1, (m2_c s7).2.2.2.2.1, (m2_c s7).2.2.2.2.2.1, (m2_c s7).2.2.2.2.2.2.1, (m2_c s7).2.2.2.2.2.2.2] at k1 k2 k3 k4 k5 k6 k7
  clear q0 q1 q2 q3 q4 q5 q6 q7
  refine ⟨16 ^ s0 + 16 ^ s1 + 16 ^ s2 + 16 ^ s3 + 16 ^ s4 + 16 ^ s5 + 16 ^ s6 + 16 ^ s7, ?_, egs_ok (by omega) (by omega) (by omega) (by omega) (by omega) (by omega) (by omega) (by omega) ?_⟩
  · generalize 16 ^ s0 = w0, 16 ^ s1 = w1, 16 ^ s2 = w2, 16 ^ s3 = w3, 16 ^ s4 = w4, 16 ^ s5 = w5, 16 ^ s6 = w6, 16 ^ s7 = w7
    omega
  · unfold egs
    refine ⟨?_, ?_, ?_, ?_, ?_, ?_, ?_, ?_, ?_⟩ <;> omega
