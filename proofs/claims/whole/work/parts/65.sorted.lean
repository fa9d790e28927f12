/-! WHO CAN BE REALISED: the sorted degrees, all of them tried -/
theorem insf_f (d : Int) (j : Nat) (o : Int → Int) : insf d (j + 1) o = if o (j : Int) < d then insf d j (fun i => if i = (j : Int) + 1 then o (j : Int) else o i) else fun i => if i = (j : Int) + 1 then d else o i := rfl
theorem insf_hi {d : Int} : ∀ (j : Nat) (o : Int → Int) (i : Int), (j : Int) < i → insf d j o i = o i
  | 0, o, i, h => by
    rw [insf_0]
    exact if_neg (by omega)
  | j + 1, o, i, h => by
    rw [insf_f]
    by_cases q : o (j : Int) < d
    · rw [if_pos q, insf_hi j _ i (by omega)]
      exact if_neg (by omega)
    · rw [if_neg q]
      exact if_neg (by omega)
theorem insf_sum (F : Int → Int) {d : Int} : ∀ (j : Nat) (o : Int → Int), rs (fun i => F (insf d j o i)) 0 ((j : Int) + 1) = rs (fun i => F (o i)) 0 (j : Int) + F d
  | 0, o => by
    rw [rs_last (by omega)]
    show rs _ 0 0 + F (insf d 0 o 0) = rs _ 0 0 + F d
    rw [rs_end (Int.le_refl _), rs_end (Int.le_refl _), insf_0, if_pos rfl]
  | j + 1, o => by
    rw [show ((j + 1 : Nat) : Int) + 1 = ((j : Int) + 1) + 1 by omega, show ((j + 1 : Nat) : Int) = (j : Int) + 1 by omega]
    have hL := rs_last (f := fun i => F (insf d (j + 1) o i)) (by omega : (0 : Int) ≤ (j : Int) + 1)
    have hR := rs_last (f := fun i => F (o i)) (by omega : (0 : Int) ≤ (j : Int))
    rw [hL, hR, insf_f]
    by_cases q : o (j : Int) < d
    · rw [if_pos q, insf_sum F j _, insf_hi j _ _ (by omega), if_pos rfl]
      have : rs (fun i => F (if i = (j : Int) + 1 then o (j : Int) else o i)) 0 (j : Int) = rs (fun i => F (o i)) 0 (j : Int) := rs_congr (fun i _ _ => by rw [if_neg (by omega)])
      omega
    · rw [if_neg q, if_pos rfl]
      have : rs (fun i => F (if i = (j : Int) + 1 then d else o i)) 0 ((j : Int) + 1) = rs (fun i => F (o i)) 0 ((j : Int) + 1) := rs_congr (fun i _ _ => by rw [if_neg (by omega)])
      rw [this, hR]
theorem srt_sum (F d : Int → Int) : ∀ j : Nat, rs (fun i => F (srt d j i)) 0 (j : Int) = rs (fun i => F (d i)) 0 (j : Int)
  | 0 => rfl
  | j + 1 => by
    rw [show ((j + 1 : Nat) : Int) = (j : Int) + 1 by omega]
    show rs (fun i => F (insf (d (j : Int)) j (srt d j) i)) 0 ((j : Int) + 1) = _
    rw [insf_sum, srt_sum F d j, rs_last (by omega : (0 : Int) ≤ (j : Int))]
theorem insf_dec {d : Int} : ∀ (j : Nat) (o : Int → Int), (∀ i, 0 ≤ i → i + 1 < (j : Int) → o (i + 1) ≤ o i) → (∀ i, 0 ≤ i → i < (j : Int) → insf d j o (i + 1) ≤ insf d j o i) ∧ (insf d j o (j : Int) = d ∨ ∃ j' : Nat, j = j' + 1 ∧ insf d j o (j : Int) = o (j' : Int))
  | 0, o, _ => by
    refine ⟨fun i i1 i2 => by omega, Or.inl ?_⟩
    rw [insf_0]
    exact if_pos rfl
  | j + 1, o, h => by
    rw [insf_f]
    by_cases q : o (j : Int) < d
    · rw [if_pos q]
      obtain ⟨h1, h2⟩ := insf_dec (d := d) j (fun i => if i = (j : Int) + 1 then o (j : Int) else o i) (fun i i1 i2 => by
        rw [if_neg (by omega), if_neg (by omega)]
        exact h i i1 (by omega))
      have e : insf d j (fun i => if i = (j : Int) + 1 then o (j : Int) else o i) ((j : Int) + 1) = o (j : Int) := by
        rw [insf_hi j _ _ (by omega)]
        exact if_pos rfl
      refine ⟨fun i i1 i2 => ?_, Or.inr ⟨j, rfl, ?_⟩⟩
      · by_cases c1 : i < (j : Int)
        · exact h1 i i1 c1
        · have : i = (j : Int) := by omega
          rw [this, e]
          rcases h2 with h2 | ⟨j', rfl, h2⟩
          · omega
          · rw [h2, if_neg (by omega)]
            have := h (j' : Int) (by omega) (by omega)
            rw [show ((j' + 1 : Nat) : Int) = (j' : Int) + 1 by omega]
            exact this
      · rw [show ((j + 1 : Nat) : Int) = (j : Int) + 1 by omega]
        exact e
    · rw [if_neg q]
      refine ⟨fun i i1 i2 => ?_, Or.inl (if_pos (by omega))⟩
      rw [if_neg (by omega : ¬ i = (j : Int) + 1)]
      by_cases c1 : i = (j : Int)
      · rw [if_pos (by omega), c1]
        omega
      · rw [if_neg (by omega)]
        exact h i i1 (by omega)
theorem srt_dec (d : Int → Int) : ∀ (j : Nat) (i : Int), 0 ≤ i → i + 1 < (j : Int) → srt d j (i + 1) ≤ srt d j i
  | 0, i, h1, h2 => by omega
  | j + 1, i, h1, h2 => (insf_dec j (srt d j) (fun i i1 i2 => srt_dec d j i i1 i2)).1 i h1 (by omega)
def m2 (x k : Nat) : Nat := if x < k then x else k
def allb : Nat → (Nat → Bool) → Bool
  | 0, _ => true
  | n + 1, f => f n && allb n f
theorem allb_ok {f : Nat → Bool} : ∀ n : Nat, allb n f = true → ∀ k, k < n → f k = true
  | 0, _, k, h => absurd h (Nat.not_lt_zero k)
  | n + 1, h, k, hk => by
    have h' : (f n && allb n f) = true := h
    rw [Bool.and_eq_true] at h'
    by_cases q : k = n
    · rw [q]
      exact h'.1
    · exact allb_ok n h'.2 k (by omega)

def egs (s0 s1 s2 s3 s4 s5 s6 s7 : Nat) : Prop := s0 ≤ 0 + m2 s1 1 + m2 s2 1 + m2 s3 1 + m2 s4 1 + m2 s5 1 + m2 s6 1 + m2 s7 1 ∧ s0 + s1 ≤ 2 + m2 s2 2 + m2 s3 2 + m2 s4 2 + m2 s5 2 + m2 s6 2 + m2 s7 2 ∧ s0 + s1 + s2 ≤ 6 + m2 s3 3 + m2 s4 3 + m2 s5 3 + m2 s6 3 + m2 s7 3 ∧ s0 + s1 + s2 + s3 ≤ 12 + m2 s4 4 + m2 s5 4 + m2 s6 4 + m2 s7 4 ∧ s0 + s1 + s2 + s3 + s4 ≤ 20 + m2 s5 5 + m2 s6 5 + m2 s7 5 ∧ s0 + s1 + s2 + s3 + s4 + s5 ≤ 30 + m2 s6 6 + m2 s7 6 ∧ s0 + s1 + s2 + s3 + s4 + s5 + s6 ≤ 42 + m2 s7 7 ∧ s0 + s1 + s2 + s3 + s4 + s5 + s6 + s7 ≤ 56 ∧ (s0 + s1 + s2 + s3 + s4 + s5 + s6 + s7) % 2 = 0
def egb (s0 s1 s2 s3 s4 s5 s6 s7 : Nat) : Bool := (decide (s0 ≤ 0 + m2 s1 1 + m2 s2 1 + m2 s3 1 + m2 s4 1 + m2 s5 1 + m2 s6 1 + m2 s7 1) && (decide (s0 + s1 ≤ 2 + m2 s2 2 + m2 s3 2 + m2 s4 2 + m2 s5 2 + m2 s6 2 + m2 s7 2) && (decide (s0 + s1 + s2 ≤ 6 + m2 s3 3 + m2 s4 3 + m2 s5 3 + m2 s6 3 + m2 s7 3) && (decide (s0 + s1 + s2 + s3 ≤ 12 + m2 s4 4 + m2 s5 4 + m2 s6 4 + m2 s7 4) && (decide (s0 + s1 + s2 + s3 + s4 ≤ 20 + m2 s5 5 + m2 s6 5 + m2 s7 5) && (decide (s0 + s1 + s2 + s3 + s4 + s5 ≤ 30 + m2 s6 6 + m2 s7 6) && (decide (s0 + s1 + s2 + s3 + s4 + s5 + s6 ≤ 42 + m2 s7 7) && (decide (s0 + s1 + s2 + s3 + s4 + s5 + s6 + s7 ≤ 56) && decide ((s0 + s1 + s2 + s3 + s4 + s5 + s6 + s7) % 2 = 0)))))))))
theorem egb_ok {s0 s1 s2 s3 s4 s5 s6 s7 : Nat} (h : egs s0 s1 s2 s3 s4 s5 s6 s7) : egb s0 s1 s2 s3 s4 s5 s6 s7 = true := by
  obtain ⟨h1, h2, h3, h4, h5, h6, h7, h8, h9⟩ := h
  unfold egb
  rw [decide_eq_true h1, decide_eq_true h2, decide_eq_true h3, decide_eq_true h4, decide_eq_true h5, decide_eq_true h6, decide_eq_true h7, decide_eq_true h8, decide_eq_true h9]
  rfl
def chk : Bool := allb 8 fun s0 => allb (s0 + 1) fun s1 => allb (s1 + 1) fun s2 => allb (s2 + 1) fun s3 => allb (s3 + 1) fun s4 => allb (s4 + 1) fun s5 => allb (s5 + 1) fun s6 => allb (s6 + 1) fun s7 => !(egb s0 s1 s2 s3 s4 s5 s6 s7) || rnN 8 (16 ^ s0 + 16 ^ s1 + 16 ^ s2 + 16 ^ s3 + 16 ^ s4 + 16 ^ s5 + 16 ^ s6 + 16 ^ s7)
theorem chk_ok : chk = true := by decide +kernel
theorem egs_ok {s0 s1 s2 s3 s4 s5 s6 s7 : Nat} (h0 : s0 < 8) (h1 : s1 < s0 + 1) (h2 : s2 < s1 + 1) (h3 : s3 < s2 + 1) (h4 : s4 < s3 + 1) (h5 : s5 < s4 + 1) (h6 : s6 < s5 + 1) (h7 : s7 < s6 + 1) (he : egs s0 s1 s2 s3 s4 s5 s6 s7) : rnN 8 (16 ^ s0 + 16 ^ s1 + 16 ^ s2 + 16 ^ s3 + 16 ^ s4 + 16 ^ s5 + 16 ^ s6 + 16 ^ s7) = true := by
  have h : chk = true := chk_ok
  unfold chk at h
  have h := allb_ok _ h s0 h0
  have h := allb_ok _ h s1 h1
  have h := allb_ok _ h s2 h2
  have h := allb_ok _ h s3 h3
  have h := allb_ok _ h s4 h4
  have h := allb_ok _ h s5 h5
  have h := allb_ok _ h s6 h6
  have h := allb_ok _ h s7 h7
  rw [egb_ok he] at h
  exact h
