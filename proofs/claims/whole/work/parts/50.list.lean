/-! THE LIST of switches: the codes that pass, in their order -/
def okc (p : Int) (c : Int → Int → Int) (k : Int) : Prop := frs (k / 512 % 8) (k / 64 % 8) (k / 8 % 8) (k % 8) ∧ rsn p c (k / 512 % 8) (k / 64 % 8) (k / 8 % 8) (k % 8) = 0
noncomputable def oki (p : Int) (c : Int → Int → Int) (k : Int) : Int := @ite _ (okc p c k) (Classical.propDecidable _) 1 0
theorem oki_1 {p : Int} {c : Int → Int → Int} {k : Int} (h : okc p c k) : oki p c k = 1 := if_pos h
theorem oki_0 {p : Int} {c : Int → Int → Int} {k : Int} (h : ¬ okc p c k) : oki p c k = 0 := if_neg h
theorem oki_r (p : Int) (c : Int → Int → Int) (k : Int) : 0 ≤ oki p c k ∧ oki p c k ≤ 1 := by
  unfold oki
  split <;> omega
noncomputable def lcn (p : Int) (c : Int → Int → Int) (k : Int) : Int := rs (oki p c) 0 k
/-- how many there are (held shut, for the kernel) -/
noncomputable def lsz (p : Int) (c : Int → Int → Int) : Int := Classical.choose (⟨lcn p c 4096, rfl⟩ : ∃ s, s = lcn p c 4096)
theorem lsz_e (p : Int) (c : Int → Int → Int) : lsz p c = lcn p c 4096 := Classical.choose_spec (⟨lcn p c 4096, rfl⟩ : ∃ s, s = lcn p c 4096)
theorem lcn_s {p : Int} {c : Int → Int → Int} {k : Int} (hk : 0 ≤ k) : lcn p c (k + 1) = lcn p c k + oki p c k := rs_last hk
theorem lcn_mono {p : Int} {c : Int → Int → Int} {a b : Int} (ha : 0 ≤ a) (hab : a ≤ b) : lcn p c a ≤ lcn p c b := by
  unfold lcn
  rw [rs_cut ha hab]
  have : 0 ≤ rs (oki p c) a b := rs_nn (fun k _ _ => (oki_r p c k).1)
  omega
theorem lcn_nn (p : Int) (c : Int → Int → Int) (k : Int) : 0 ≤ lcn p c k := rs_nn (fun k _ _ => (oki_r p c k).1)
theorem lcn_lt {p : Int} {c : Int → Int → Int} {a b : Int} (ha : 0 ≤ a) (hab : a < b) (h : okc p c a) : lcn p c a < lcn p c b := by
  have h1 := lcn_s (p := p) (c := c) ha
  rw [oki_1 h] at h1
  have h2 := lcn_mono (p := p) (c := c) (by omega : 0 ≤ a + 1) (by omega : a + 1 ≤ b)
  omega
theorem lcn_ex {p : Int} {c : Int → Int → Int} : ∀ (K : Nat) (i : Int), 0 ≤ i → i < lcn p c (K : Int) → ∃ k, (0 ≤ k ∧ k < (K : Int)) ∧ okc p c k ∧ lcn p c k = i
  | 0, i, h1, h2 => by
    have : lcn p c ((0 : Nat) : Int) = 0 := rfl
    omega
  | K + 1, i, h1, h2 => by
    rw [show ((K + 1 : Nat) : Int) = (K : Int) + 1 by omega, lcn_s (by omega)] at h2
    by_cases h3 : i < lcn p c (K : Int)
    · obtain ⟨k, hk, a1, a2⟩ := lcn_ex K i h1 h3
      exact ⟨k, by omega, a1, a2⟩
    · by_cases h4 : okc p c (K : Int)
      · rw [oki_1 h4] at h2
        exact ⟨K, by omega, h4, by omega⟩
      · rw [oki_0 h4] at h2
        omega
/-- the i-th of the list -/
noncomputable def lkc (p : Int) (c : Int → Int → Int) (i : Int) : Int := Classical.epsilon (fun k => (0 ≤ k ∧ k < 4096) ∧ okc p c k ∧ lcn p c k = i)
theorem lkc_ok {p : Int} {c : Int → Int → Int} {i : Int} (h1 : 0 ≤ i) (h2 : i < lsz p c) : (0 ≤ lkc p c i ∧ lkc p c i < 4096) ∧ okc p c (lkc p c i) ∧ lcn p c (lkc p c i) = i := by
  rw [lsz_e] at h2
  exact Classical.epsilon_spec (lcn_ex 4096 i h1 h2)
theorem lkc_at {p : Int} {c : Int → Int → Int} {k : Int} (hk : 0 ≤ k ∧ k < 4096) (h : okc p c k) : lkc p c (lcn p c k) = k := by
  have h2 : lcn p c k < lsz p c := by
    rw [lsz_e]
    exact lcn_lt hk.1 hk.2 h
  obtain ⟨a1, a2, a3⟩ := lkc_ok (lcn_nn p c k) h2
  by_cases q1 : lkc p c (lcn p c k) < k
  · have := lcn_lt (b := k) a1.1 q1 a2
    omega
  · by_cases q2 : k < lkc p c (lcn p c k)
    · have := lcn_lt (b := lkc p c (lcn p c k)) hk.1 q2 h
      omega
    · omega
/-- what an array holds when the codes below K have been looked at -/
def Lst (p : Int) (c : Int → Int → Int) (ν : qMu) (A : Nat) (K : Int) : Prop := ∀ k, 0 ≤ k → k < K → okc p c k → rd ν A (lcn p c k) = k
theorem Lst.at {p : Int} {c : Int → Int → Int} {ν : qMu} {A : Nat} (h : Lst p c ν A 4096) {i : Int} (h1 : 0 ≤ i) (h2 : i < lsz p c) : rd ν A i = lkc p c i := by
  obtain ⟨a1, a2, a3⟩ := lkc_ok h1 h2
  have := h _ a1.1 a1.2 a2
  rw [a3] at this
  exact this
/-! how many there are -/
theorem rs_sq {f : Int → Int} : ∀ P : Nat, rs f 0 (64 * (P : Int)) = rs (fun p => rs (fun q => f (64 * p + q)) 0 64) 0 (P : Int) := by
  have sh : ∀ (l : Nat) (a s : Int), sl f (s + a) l = sl (fun q => f (s + q)) a l := by
    intro l
    induction l with
    | zero => intro a s; rfl
    | succ l ih =>
      intro a s
      unfold sl
      rw [show s + a + 1 = s + (a + 1) by omega, ih]
  intro P
  induction P with
  | zero => rfl
  | succ P ih =>
    rw [show ((P + 1 : Nat) : Int) = (P : Int) + 1 by omega, rs_last (by omega), ← ih, rs_cut (by omega : (0 : Int) ≤ 64 * (P : Int)) (by omega : 64 * (P : Int) ≤ 64 * ((P : Int) + 1))]
    congr 1
    unfold rs
    rw [show (64 * ((P : Int) + 1) - 64 * (P : Int)).toNat = (64 - 0 : Int).toNat by omega, ← sh, Int.add_zero]
theorem sl_mul {f : Int → Int} {k : Int} : ∀ (l : Nat) (a : Int), sl (fun q => k * f q) a l = k * sl f a l
  | 0, a => by show (0 : Int) = k * 0; rw [Int.mul_zero]
  | l + 1, a => by
    show k * f a + sl (fun q => k * f q) (a + 1) l = k * (f a + sl f (a + 1) l)
    rw [sl_mul l (a + 1), Int.mul_add]
theorem rs_mul {f : Int → Int} {k a b : Int} : rs (fun q => k * f q) a b = k * rs f a b := sl_mul _ _
theorem rs_8 {f : Int → Int} : ∀ P : Nat, rs f 0 (8 * (P : Int)) = rs (fun p => rs (fun q => f (8 * p + q)) 0 8) 0 (P : Int) := by
  have sh : ∀ (l : Nat) (a s : Int), sl f (s + a) l = sl (fun q => f (s + q)) a l := by
    intro l
    induction l with
    | zero => intro a s; rfl
    | succ l ih =>
      intro a s
      unfold sl
      rw [show s + a + 1 = s + (a + 1) by omega, ih]
  intro P
  induction P with
  | zero => rfl
  | succ P ih =>
    rw [show ((P + 1 : Nat) : Int) = (P : Int) + 1 by omega, rs_last (by omega), ← ih, rs_cut (by omega : (0 : Int) ≤ 8 * (P : Int)) (by omega : 8 * (P : Int) ≤ 8 * ((P : Int) + 1))]
    congr 1
    unfold rs
    rw [show (8 * ((P : Int) + 1) - 8 * (P : Int)).toNat = (8 - 0 : Int).toNat by omega, ← sh, Int.add_zero]
/-- all pairs in order: at most twice the edges -/
theorem sq_Ed {N : Int} {c : Int → Int → Int} (hV : Vd N c) : rs (fun u => rs (fun v => c u v) 0 8) 0 8 ≤ 2 * Ed c := by
  have hs := hV.2.2.1
  have hn := hV.2.1
  have e : ∀ f : Int → Int, rs f 0 8 = f 0 + (f 1 + (f 2 + (f 3 + (f 4 + (f 5 + (f 6 + f 7)))))) := by
    intro f
    rw [rs_step (by omega), rs_step (by omega), rs_step (by omega), rs_step (by omega), rs_step (by omega), rs_step (by omega), rs_step (by omega), rs_step (by omega), rs_end (by omega), Int.add_zero]
    rfl
  have e2 : Ed c = (c 0 0 + c 0 1 + c 0 2 + c 0 3 + c 0 4 + c 0 5 + c 0 6 + c 0 7) + (c 1 1 + c 1 2 + c 1 3 + c 1 4 + c 1 5 + c 1 6 + c 1 7) + (c 2 2 + c 2 3 + c 2 4 + c 2 5 + c 2 6 + c 2 7) + (c 3 3 + c 3 4 + c 3 5 + c 3 6 + c 3 7) + (c 4 4 + c 4 5 + c 4 6 + c 4 7) + (c 5 5 + c 5 6 + c 5 7) + (c 6 6 + c 6 7) + c 7 7 := by
    unfold Ed
    rw [e]
    have st : ∀ (u a : Int), a < 8 → rs (fun v => c u v) a 8 = c u a + rs (fun v => c u v) (a + 1) 8 := fun u a h => rs_step h
    have en : ∀ u, rs (fun v => c u v) 8 8 = 0 := fun u => rs_end (Int.le_refl _)
    simp only [st _ 0 (by decide), st _ (0 + 1) (by decide), st _ (0 + 1 + 1) (by decide), st _ (0 + 1 + 1 + 1) (by decide), st _ (0 + 1 + 1 + 1 + 1) (by decide), st _ (0 + 1 + 1 + 1 + 1 + 1) (by decide), st _ (0 + 1 + 1 + 1 + 1 + 1 + 1) (by decide), st _ (0 + 1 + 1 + 1 + 1 + 1 + 1 + 1) (by decide), st _ 1 (by decide), st _ 2 (by decide), st _ 3 (by decide), st _ 4 (by decide), st _ 5 (by decide), st _ 6 (by decide), st _ 7 (by decide), en, Int.reduceAdd]
    omega
  rw [e2, e]
  simp only [e]
  have h10 := hs 1 0; have h20 := hs 2 0; have h30 := hs 3 0; have h40 := hs 4 0; have h50 := hs 5 0; have h60 := hs 6 0; have h70 := hs 7 0
  have h21 := hs 2 1; have h31 := hs 3 1; have h41 := hs 4 1; have h51 := hs 5 1; have h61 := hs 6 1; have h71 := hs 7 1
  have h32 := hs 3 2; have h42 := hs 4 2; have h52 := hs 5 2; have h62 := hs 6 2; have h72 := hs 7 2
  have h43 := hs 4 3; have h53 := hs 5 3; have h63 := hs 6 3; have h73 := hs 7 3
  have h54 := hs 5 4; have h64 := hs 6 4; have h74 := hs 7 4
  have h65 := hs 6 5; have h75 := hs 7 5
  have h76 := hs 7 6
  have n0 := hn 0 0; have n1 := hn 1 1; have n2 := hn 2 2; have n3 := hn 3 3; have n4 := hn 4 4; have n5 := hn 5 5; have n6 := hn 6 6; have n7 := hn 7 7
  omega
theorem rsn_0 {p : Int} {c : Int → Int → Int} {a b x y : Int} (h : rsn p c a b x y = 0) : c a b ≠ 0 ∧ ¬ (c x y - (if (a = x ∧ b = y) ∨ (a = y ∧ b = x) then 1 else 0) < 1) ∧ ¬ (a = y ∨ b = x) ∧ ¬ (p ≠ 0 ∧ (a = x ∨ b = y)) ∧ ¬ (p = 2 ∧ (0 < c a x ∨ 0 < c b y ∨ (a = b ∧ x = y))) := by
  unfold rsn at h
  by_cases c1 : c a b = 0
  · rw [if_pos c1] at h
    omega
  · rw [if_neg c1] at h
    by_cases c2 : c x y - (if (a = x ∧ b = y) ∨ (a = y ∧ b = x) then 1 else 0) < 1
    · rw [if_pos c2] at h
      omega
    · rw [if_neg c2] at h
      by_cases c3 : a = y ∨ b = x
      · rw [if_pos c3] at h
        omega
      · rw [if_neg c3] at h
        by_cases c4 : p ≠ 0 ∧ (a = x ∨ b = y)
        · rw [if_pos c4] at h
          omega
        · rw [if_neg c4] at h
          by_cases c5 : p = 2 ∧ (0 < c a x ∨ 0 < c b y ∨ (a = b ∧ x = y))
          · rw [if_pos c5] at h
            omega
          · exact ⟨c1, c2, c3, c4, c5⟩
theorem lsz_le {N p : Int} {c : Int → Int → Int} (hV : Vd N c) : lsz p c ≤ 1024 := by
  have hE := hV.2.2.2.2
  -- who has an edge
  have key : ∀ k, 0 ≤ k → k < 4096 → oki p c k ≤ (if 0 < c (k / 512 % 8) (k / 64 % 8) then 1 else 0) * (if 0 < c (k / 8 % 8) (k % 8) then 1 else 0) := by
    intro k h1 h2
    by_cases h : okc p c k
    · have hr := rsn_0 h.2
      have n1 := hV.2.1 (k / 512 % 8) (k / 64 % 8)
      have n2 : 0 < c (k / 8 % 8) (k % 8) := by
        have := hr.2.1
        omega
      rw [if_pos (by omega), if_pos n2, oki_1 h]
      omega
    · rw [oki_0 h]
      split <;> split <;> omega
  have h1 : lsz p c ≤ rs (fun k => (if 0 < c (k / 512 % 8) (k / 64 % 8) then (1 : Int) else 0) * (if 0 < c (k / 8 % 8) (k % 8) then 1 else 0)) 0 4096 := by
    rw [lsz_e]
    exact rs_le key
  have h2 := rs_sq (f := fun k => (if 0 < c (k / 512 % 8) (k / 64 % 8) then (1 : Int) else 0) * (if 0 < c (k / 8 % 8) (k % 8) then 1 else 0)) 64
  rw [show (64 * ((64 : Nat) : Int)) = 4096 by omega, show ((64 : Nat) : Int) = 64 by omega] at h2
  rw [h2] at h1
  have h3 : rs (fun p => rs (fun q => (if 0 < c ((64 * p + q) / 512 % 8) ((64 * p + q) / 64 % 8) then (1 : Int) else 0) * (if 0 < c ((64 * p + q) / 8 % 8) ((64 * p + q) % 8) then 1 else 0)) 0 64) 0 64 = rs (fun q => if 0 < c (q / 8 % 8) (q % 8) then (1 : Int) else 0) 0 64 * rs (fun q => if 0 < c (q / 8 % 8) (q % 8) then (1 : Int) else 0) 0 64 := by
    rw [← rs_mul]
    refine rs_congr (fun p p1 p2 => ?_)
    show rs (fun q => _ * _) 0 64 = rs (fun q => if 0 < c (q / 8 % 8) (q % 8) then (1 : Int) else 0) 0 64 * (if 0 < c (p / 8 % 8) (p % 8) then (1 : Int) else 0)
    rw [Int.mul_comm (rs _ 0 64), ← rs_mul]
    refine rs_congr (fun q q1 q2 => ?_)
    show (if 0 < c ((64 * p + q) / 512 % 8) ((64 * p + q) / 64 % 8) then (1 : Int) else 0) * (if 0 < c ((64 * p + q) / 8 % 8) ((64 * p + q) % 8) then 1 else 0) = _
    rw [show (64 * p + q) / 512 % 8 = p / 8 % 8 by omega, show (64 * p + q) / 64 % 8 = p % 8 by omega, show (64 * p + q) / 8 % 8 = q / 8 % 8 by omega, show (64 * p + q) % 8 = q % 8 by omega]
  have h4 : rs (fun q => if 0 < c (q / 8 % 8) (q % 8) then (1 : Int) else 0) 0 64 ≤ 32 := by
    have e := rs_8 (f := fun q => if 0 < c (q / 8 % 8) (q % 8) then (1 : Int) else 0) 8
    rw [show (8 * ((8 : Nat) : Int)) = 64 by omega, show ((8 : Nat) : Int) = 8 by omega] at e
    rw [e]
    have e2 : rs (fun p => rs (fun q => if 0 < c ((8 * p + q) / 8 % 8) ((8 * p + q) % 8) then (1 : Int) else 0) 0 8) 0 8 ≤ rs (fun u => rs (fun v => c u v) 0 8) 0 8 := rs_le (fun u u1 u2 => rs_le (fun v v1 v2 => by
      rw [show (8 * u + v) / 8 % 8 = u by omega, show (8 * u + v) % 8 = v by omega]
      have := hV.2.1 u v
      split <;> omega))
    have := sq_Ed hV
    omega
  have h5 : 0 ≤ rs (fun q => if 0 < c (q / 8 % 8) (q % 8) then (1 : Int) else 0) 0 64 := rs_nn (fun k _ _ => by split <;> omega)
  rw [h3] at h1
  have h6 := Int.mul_le_mul h4 h4 h5 (by omega)
  omega
