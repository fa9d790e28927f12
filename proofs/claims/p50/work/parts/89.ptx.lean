/-! THE LAW'S TEXT, read by the parser -/
theorem run_len {P : Int → Bool} {b : Int → Int} {e : Int} : ∀ (l k : Nat) (p : Int), (∀ i : Int, 0 ≤ i → i < (l : Int) → p + i < e ∧ P (b (p + i)) = true) → ¬ (p + (l : Int) < e ∧ P (b (p + (l : Int))) = true) → l < k → run P b e k p = p + (l : Int)
  | 0, k, p, h1, h2, hk => by
    obtain ⟨k, rfl⟩ : ∃ k', k = k' + 1 := ⟨k - 1, by omega⟩
    unfold run
    rw [show p + ((0 : Nat) : Int) = p by omega] at h2 ⊢
    rw [if_neg h2]
  | l + 1, k, p, h1, h2, hk => by
    obtain ⟨k, rfl⟩ : ∃ k', k = k' + 1 := ⟨k - 1, by omega⟩
    unfold run
    have h0 := h1 0 (by omega) (by omega)
    rw [Int.add_zero] at h0
    rw [if_pos h0, run_len l k (p + 1) (fun i i1 i2 => by
      have := h1 (i + 1) (by omega) (by omega)
      rw [show p + (i + 1) = p + 1 + i by omega] at this
      exact this) (by
      rw [show p + 1 + (l : Int) = p + ((l + 1 : Nat) : Int) by omega]
      exact h2) (by omega)]
    omega
section TOK
variable {b : Int → Int} {e s p : Int}
theorem isB_no {x : Int} (h : x ≠ 32 ∧ x ≠ 10) : ¬ isB x = true := by
  unfold isB
  simp [h.1, h.2]
theorem isL_no {x : Int} (h : x < 97) : ¬ isL x = true := by
  unfold isL
  simp only [Bool.and_eq_true, decide_eq_true_eq]
  omega
theorem isD_no {x : Int} (h : x < 48 ∨ 57 < x) : ¬ isD x = true := by
  unfold isD
  simp only [Bool.and_eq_true, decide_eq_true_eq]
  omega
theorem isD_is {x : Int} (h : 48 ≤ x ∧ x ≤ 57) : isD x = true := by
  unfold isD
  simp only [Bool.and_eq_true, decide_eq_true_eq]
  exact h
theorem isL_is {x : Int} (h : 97 ≤ x ∧ x ≤ 122) : isL x = true := by
  unfold isL
  simp only [Bool.and_eq_true, decide_eq_true_eq]
  exact h
/-- no blank: the token stands there; a blank: behind it -/
theorem tkS_0 (h : b p ≠ 32 ∧ b p ≠ 10) : tkS b e p = p := by
  unfold tkS
  rw [run_len 0 401 p (fun i i1 i2 => by omega) (fun q => isB_no (x := b (p + ((0 : Nat) : Int))) (by rw [show p + ((0 : Nat) : Int) = p by omega]; exact h) q.2) (by omega)]
  omega
theorem tkS_e : tkS b e e = e := by
  unfold tkS
  rw [run_len 0 401 e (fun i i1 i2 => by omega) (fun q => by have := q.1; omega) (by omega)]
  omega
theorem tkS_1 (hp : p < e) (h : b p = 32) (h1 : b (p + 1) ≠ 32 ∧ b (p + 1) ≠ 10) : tkS b e p = p + 1 := by
  unfold tkS
  rw [run_len 1 401 p (fun i i1 i2 => by
    have : i = 0 := by omega
    rw [this, Int.add_zero, h]
    exact ⟨hp, rfl⟩) (fun q => isB_no (x := b (p + ((1 : Nat) : Int))) h1 q.2) (by omega)]
  rfl
theorem tk_semi (hs : s < e) (h : b s = 59) : tkK b e s = 3 ∧ tkE b e s = s + 1 := by
  have h1 : ¬ isL (b s) = true := isL_no (by omega)
  have h2 : ¬ isD (b s) = true := isD_no (by omega)
  unfold tkK tkE
  rw [if_pos hs, if_pos hs, if_neg h1, if_neg h1, if_neg h2, if_neg h2, if_pos h]
  exact ⟨rfl, rfl⟩
theorem tk_end : tkK b e e = 0 := if_neg (Int.lt_irrefl _)
theorem tk_dig (hs : s < e) (h : 48 ≤ b s ∧ b s ≤ 57) (h1 : b (s + 1) < 48 ∨ 57 < b (s + 1)) : tkK b e s = 2 ∧ tkE b e s = s + 1 ∧ tkV b e s = b s - 48 := by
  have q1 : ¬ isL (b s) = true := isL_no (by omega)
  have q2 : isD (b s) = true := isD_is h
  have r : run isD b e 401 s = s + 1 := by
    rw [run_len 1 401 s (fun i i1 i2 => by
      have : i = 0 := by omega
      rw [this, Int.add_zero]
      exact ⟨hs, q2⟩) (fun q => isD_no (x := b (s + ((1 : Nat) : Int))) h1 q.2) (by omega)]
    rfl
  unfold tkK tkE tkV
  rw [if_pos hs, if_pos hs, if_neg q1, if_neg q1, if_pos q2, if_pos q2, r, show s + 1 - s = 1 by omega]
  exact ⟨if_neg (by omega), rfl, by unfold nuj; rw [if_neg (by omega), if_pos rfl]⟩
theorem tk_word {l : Nat} (hl : 1 ≤ l ∧ l ≤ 8) (hs : s + (l : Int) < e) (h : ∀ i : Int, 0 ≤ i → i < (l : Int) → 97 ≤ b (s + i) ∧ b (s + i) ≤ 122) (h1 : b (s + (l : Int)) < 97) : tkK b e s = 1 ∧ tkE b e s = s + (l : Int) := by
  have h0 := h 0 (by omega) (by omega)
  rw [Int.add_zero] at h0
  have q1 : isL (b s) = true := isL_is h0
  have r : run isL b e 401 s = s + (l : Int) := run_len l 401 s (fun i i1 i2 => ⟨by omega, isL_is (h i i1 i2)⟩) (fun q => isL_no h1 q.2) (by omega)
  have hse : s < e := by omega
  unfold tkK tkE
  rw [if_pos hse, if_pos hse, if_pos q1, if_pos q1, r, if_neg (by omega)]
  exact ⟨rfl, rfl⟩
theorem pnum_ok {lo hi : Int} (h : tkK b e s = 2) (hv : lo ≤ tkV b e s ∧ tkV b e s ≤ hi) : pnum b e s lo hi = .inr (tkV b e s) := by
  unfold pnum
  rw [if_pos h, if_neg (by omega)]
end TOK
/-- the text: degrees D of N, mode m, K edges U V -/
def TT (b : Int → Int) (e : Int) (N : Nat) (D : Int → Int) (m : Int) (K : Nat) (U V : Nat → Int) : Prop :=
  (1 ≤ N ∧ N ≤ 6) ∧
  (∀ i, 0 ≤ D i ∧ D i ≤ 4) ∧
  (0 ≤ m ∧ m ≤ 2) ∧
  (K ≤ 3) ∧
  (∀ j, j < K → (0 ≤ U j ∧ U j < (N : Int)) ∧ (0 ≤ V j ∧ V j < (N : Int))) ∧
  (∀ i : Int, 0 ≤ i → i < 7 → b i = wd 1000001 i) ∧
  (∀ i : Int, 0 ≤ i → i < (N : Int) → b (7 + 2 * i) = 32 ∧ b (8 + 2 * i) = 48 + D i) ∧
  (b (7 + 2 * (N : Int)) = 59 ∧ (∀ i : Int, 0 ≤ i → i < 4 → b (8 + 2 * (N : Int) + i) = wd 1000004 i) ∧ b (12 + 2 * (N : Int)) = 32 ∧ b (13 + 2 * (N : Int)) = 48 + m ∧ b (14 + 2 * (N : Int)) = 59) ∧
  (∀ j : Nat, j < K → (∀ i : Int, 0 ≤ i → i < 4 → b (15 + 2 * (N : Int) + 9 * (j : Int) + i) = wd 1000002 i) ∧ b (19 + 2 * (N : Int) + 9 * (j : Int)) = 32 ∧ b (20 + 2 * (N : Int) + 9 * (j : Int)) = 48 + U j ∧ b (21 + 2 * (N : Int) + 9 * (j : Int)) = 32 ∧ b (22 + 2 * (N : Int) + 9 * (j : Int)) = 48 + V j ∧ b (23 + 2 * (N : Int) + 9 * (j : Int)) = 59) ∧
  (e = 15 + 2 * (N : Int) + 9 * (K : Int))
theorem TT.rN {b : Int → Int} {e : Int} {N : Nat} {D : Int → Int} {m : Int} {K : Nat} {U V : Nat → Int} (h : TT b e N D m K U V) : 1 ≤ N ∧ N ≤ 6 := h.1
theorem TT.rD {b : Int → Int} {e : Int} {N : Nat} {D : Int → Int} {m : Int} {K : Nat} {U V : Nat → Int} (h : TT b e N D m K U V) : ∀ i, 0 ≤ D i ∧ D i ≤ 4 := h.2.1
theorem TT.rm {b : Int → Int} {e : Int} {N : Nat} {D : Int → Int} {m : Int} {K : Nat} {U V : Nat → Int} (h : TT b e N D m K U V) : 0 ≤ m ∧ m ≤ 2 := h.2.2.1
theorem TT.rK {b : Int → Int} {e : Int} {N : Nat} {D : Int → Int} {m : Int} {K : Nat} {U V : Nat → Int} (h : TT b e N D m K U V) : K ≤ 3 := h.2.2.2.1
theorem TT.rU {b : Int → Int} {e : Int} {N : Nat} {D : Int → Int} {m : Int} {K : Nat} {U V : Nat → Int} (h : TT b e N D m K U V) : ∀ j, j < K → (0 ≤ U j ∧ U j < (N : Int)) ∧ (0 ≤ V j ∧ V j < (N : Int)) := h.2.2.2.2.1
theorem TT.hd {b : Int → Int} {e : Int} {N : Nat} {D : Int → Int} {m : Int} {K : Nat} {U V : Nat → Int} (h : TT b e N D m K U V) : ∀ i : Int, 0 ≤ i → i < 7 → b i = wd 1000001 i := h.2.2.2.2.2.1
theorem TT.dg {b : Int → Int} {e : Int} {N : Nat} {D : Int → Int} {m : Int} {K : Nat} {U V : Nat → Int} (h : TT b e N D m K U V) : ∀ i : Int, 0 ≤ i → i < (N : Int) → b (7 + 2 * i) = 32 ∧ b (8 + 2 * i) = 48 + D i := h.2.2.2.2.2.2.1
theorem TT.md {b : Int → Int} {e : Int} {N : Nat} {D : Int → Int} {m : Int} {K : Nat} {U V : Nat → Int} (h : TT b e N D m K U V) : b (7 + 2 * (N : Int)) = 59 ∧ (∀ i : Int, 0 ≤ i → i < 4 → b (8 + 2 * (N : Int) + i) = wd 1000004 i) ∧ b (12 + 2 * (N : Int)) = 32 ∧ b (13 + 2 * (N : Int)) = 48 + m ∧ b (14 + 2 * (N : Int)) = 59 := h.2.2.2.2.2.2.2.1
theorem TT.ed {b : Int → Int} {e : Int} {N : Nat} {D : Int → Int} {m : Int} {K : Nat} {U V : Nat → Int} (h : TT b e N D m K U V) : ∀ j : Nat, j < K → (∀ i : Int, 0 ≤ i → i < 4 → b (15 + 2 * (N : Int) + 9 * (j : Int) + i) = wd 1000002 i) ∧ b (19 + 2 * (N : Int) + 9 * (j : Int)) = 32 ∧ b (20 + 2 * (N : Int) + 9 * (j : Int)) = 48 + U j ∧ b (21 + 2 * (N : Int) + 9 * (j : Int)) = 32 ∧ b (22 + 2 * (N : Int) + 9 * (j : Int)) = 48 + V j ∧ b (23 + 2 * (N : Int) + 9 * (j : Int)) = 59 := h.2.2.2.2.2.2.2.2.1
theorem TT.le {b : Int → Int} {e : Int} {N : Nat} {D : Int → Int} {m : Int} {K : Nat} {U V : Nat → Int} (h : TT b e N D m K U V) : e = 15 + 2 * (N : Int) + 9 * (K : Int) := h.2.2.2.2.2.2.2.2.2
theorem pall_s (b : Int → Int) (e : Int) (k : Nat) (s : Int) (st : qEn) : pall b e (k + 1) s st = if tkK b e s = 0 then .inr st else pbd (pcl b e (pst b e s st)) fun x => pall b e k (nx b e x.1) x.2 := rfl
def eds (U V : Nat → Int) (c : Int → Int → Int) : Nat → Int → Int → Int
  | 0 => c
  | j + 1 => addc (eds U V c j) (U j) (V j) 1
theorem wd_7 : ∀ i : Nat, i < 7 → 97 ≤ wd 1000001 (i : Int) ∧ wd 1000001 (i : Int) ≤ 122 := by decide +kernel
theorem wd_m : ∀ i : Nat, i < 4 → 97 ≤ wd 1000004 (i : Int) ∧ wd 1000004 (i : Int) ≤ 122 := by decide +kernel
theorem wd_e : ∀ i : Nat, i < 4 → 97 ≤ wd 1000002 (i : Int) ∧ wd 1000002 (i : Int) ≤ 122 := by decide +kernel
theorem qsl_s : qsl 1000000 = 8 ∧ qsl 1000001 = 7 ∧ qsl 1000002 = 4 ∧ qsl 1000003 = 6 ∧ qsl 1000004 = 4 := by decide +kernel
theorem wd_me : wd 1000004 0 = 109 ∧ wd 1000002 0 = 101 := by decide +kernel
theorem b0_cg {l l' : Int → Int} : ∀ N : Nat, (∀ i, 0 ≤ i → i < (N : Int) → l i = l' i) → b0 l N = b0 l' N
  | 0, _ => rfl
  | N + 1, h => by
    have h1 := b0_cg N (fun i i1 i2 => h i i1 (by omega))
    have h2 := h (N : Int) (by omega) (by omega)
    unfold b0
    rw [h1, h2]
section TTS
variable {b : Int → Int} {e m : Int} {N K : Nat} {D : Int → Int} {U V : Nat → Int}
theorem TT.tb (h : TT b e N D m K U V) (hb : ∀ i, 0 ≤ i → i < e → 0 ≤ b i ∧ b i ≤ 255) : TB b e := by
  have h1 := h.rN
  have h2 := h.rK
  have h3 := h.le
  exact ⟨by omega, hb⟩
theorem TT.first (h : TT b e N D m K U V) : tkS b e 0 = 0 ∧ tkK b e 0 = 1 ∧ tkE b e 0 = 7 ∧ nx b e 0 = 8 := by
  have h1 := h.rN
  have h2 := h.rK
  have h3 := h.le
  have w := fun (i : Int) (i1 : 0 ≤ i) (i2 : i < 7) => wd_7 i.toNat (by omega)
  have e0 : ∀ i : Int, 0 ≤ i → i < 7 → 97 ≤ b (0 + i) ∧ b (0 + i) ≤ 122 := fun i i1 i2 => by
    rw [Int.zero_add, h.hd i i1 i2]
    have := w i i1 i2
    rw [show ((i.toNat : Nat) : Int) = i by omega] at this
    exact this
  have d0 := h.dg 0 (by omega) (by omega)
  have dr := h.rD 0
  rw [show (7 : Int) + 2 * 0 = 7 by omega, show (8 : Int) + 2 * 0 = 8 by omega] at d0
  have hb0 := e0 0 (by omega) (by omega)
  rw [Int.add_zero] at hb0
  obtain ⟨k1, k2⟩ := tk_word (b := b) (e := e) (s := 0) (l := 7) (by omega) (by omega) e0 (by rw [show (0 : Int) + ((7 : Nat) : Int) = 7 by omega, d0.1]; decide)
  rw [show (0 : Int) + ((7 : Nat) : Int) = 7 by omega] at k2
  refine ⟨tkS_0 (by omega), k1, k2, ?_⟩
  unfold nx
  rw [k2, tkS_1 (by omega) d0.1 (by rw [show (7 : Int) + 1 = 8 by omega, d0.2]; omega)]
  rfl
theorem TT.nextD (h : TT b e N D m K U V) {i : Nat} (hi : i < N) : tkK b e (8 + 2 * (i : Int)) = 2 ∧ tkV b e (8 + 2 * (i : Int)) = D (i : Int) ∧ nx b e (8 + 2 * (i : Int)) = if i + 1 < N then 8 + 2 * ((i : Int) + 1) else 7 + 2 * (N : Int) := by
  have h1 := h.rN
  have h2 := h.rK
  have h3 := h.le
  have d0 := h.dg (i : Int) (by omega) (by omega)
  have dr := h.rD (i : Int)
  have nb : b (8 + 2 * (i : Int) + 1) < 48 ∨ 57 < b (8 + 2 * (i : Int) + 1) := by
    by_cases c : i + 1 < N
    · have d1 := h.dg ((i : Int) + 1) (by omega) (by omega)
      rw [show 8 + 2 * (i : Int) + 1 = 7 + 2 * ((i : Int) + 1) by omega, d1.1]
      omega
    · have d1 := h.md.1
      rw [show 8 + 2 * (i : Int) + 1 = 7 + 2 * (N : Int) by omega, d1]
      omega
  obtain ⟨k1, k2, k3⟩ := tk_dig (b := b) (e := e) (s := 8 + 2 * (i : Int)) (by omega) (by rw [d0.2]; omega) nb
  refine ⟨k1, by rw [k3, d0.2]; omega, ?_⟩
  unfold nx
  rw [k2]
  by_cases c : i + 1 < N
  · have d1 := h.dg ((i : Int) + 1) (by omega) (by omega)
    have dr1 := h.rD ((i : Int) + 1)
    rw [if_pos c, tkS_1 (by omega) (by rw [show 8 + 2 * (i : Int) + 1 = 7 + 2 * ((i : Int) + 1) by omega]; exact d1.1) (by rw [show 8 + 2 * (i : Int) + 1 + 1 = 8 + 2 * ((i : Int) + 1) by omega, d1.2]; omega)]
    omega
  · rw [if_neg c, show 8 + 2 * (i : Int) + 1 = 7 + 2 * (N : Int) by omega, tkS_0 (by rw [h.md.1]; omega)]
theorem TT.q_tki (h : TT b e N D m K U V) : ∀ i : Nat, i ≤ N → tki b e 0 i = if i < N then 8 + 2 * (i : Int) else 7 + 2 * (N : Int)
  | 0, _ => by
    have := h.rN
    rw [if_pos (by omega)]
    exact h.first.2.2.2
  | i + 1, hi => by
    show nx b e (tki b e 0 i) = _
    rw [TT.q_tki h i (by omega), if_pos (by omega), (h.nextD (i := i) (by omega)).2.2]
    by_cases c : i + 1 < N
    · rw [if_pos c, if_pos c]
      omega
    · rw [if_neg c, if_neg c]
theorem TT.semi (h : TT b e N D m K U V) : tkK b e (7 + 2 * (N : Int)) = 3 ∧ nx b e (7 + 2 * (N : Int)) = 8 + 2 * (N : Int) := by
  have h1 := h.rN
  have h3 := h.le
  obtain ⟨k1, k2⟩ := tk_semi (b := b) (e := e) (s := 7 + 2 * (N : Int)) (by omega) h.md.1
  refine ⟨k1, ?_⟩
  unfold nx
  have w := h.md.2.1 0 (by omega) (by omega)
  rw [Int.add_zero, wd_me.1] at w
  rw [k2, show 7 + 2 * (N : Int) + 1 = 8 + 2 * (N : Int) by omega, tkS_0 (by rw [w]; omega)]
theorem TT.q_pdg (h : TT b e N D m K U V) : ∀ k i : Nat, i + k = 9 → i ≤ N → pdg b e 0 k i = .inr N
  | 0, i, hk, hi => by have := h.rN; omega
  | k + 1, i, hk, hi => by
    have h1 := h.rN
    have ht := h.q_tki i hi
    unfold pdg
    by_cases c : i < N
    · rw [if_pos c] at ht
      obtain ⟨n1, n2, n3⟩ := h.nextD c
      have dr := h.rD (i : Int)
      rw [ht, if_pos (Or.inr n1), pnum_ok n1 (by rw [n2]; omega)]
      show (if i = 8 then _ else _) = _
      rw [if_neg (by omega)]
      exact TT.q_pdg h k (i + 1) (by omega) (by omega)
    · have e1 : i = N := by omega
      rw [if_neg c] at ht
      rw [ht, if_neg (fun q => by have := h.semi.1; omega), e1]
theorem TT.q_dgt (h : TT b e N D m K U V) {i : Int} (hi : 0 ≤ i ∧ i < (N : Int)) : dgt b e 0 i = D i := by
  have ht := h.q_tki i.toNat (by omega)
  rw [if_pos (by omega), show ((i.toNat : Nat) : Int) = i by omega] at ht
  have hv := (h.nextD (i := i.toNat) (by omega)).2.1
  rw [show ((i.toNat : Nat) : Int) = i by omega] at hv
  have dr := h.rD i
  unfold dgt
  rw [ht, hv, if_pos (by omega)]
theorem TT.q_ps1 (h : TT b e N D m K U V) (hs : rs D 0 (N : Int) % 2 = 0) : pcl b e (ps1 b e 0) = .inr (7 + 2 * (N : Int), (N : Int), 0, (b0 D N).2, zc) := by
  have h1 := h.rN
  obtain ⟨f1, f2, f3, f4⟩ := h.first
  have nv : ¬ isW b e 0 1000000 := fun q => by
    have := q.2.1
    rw [f3, qsl_s.1] at this
    omega
  have wv : isW b e 0 1000001 := ⟨f2, by rw [f3, qsl_s.2.1]; rfl, fun k k1 k2 => by
    rw [qsl_s.2.1] at k2
    rw [Int.zero_add]
    exact h.hd k k1 k2⟩
  have e1 : ps1 b e 0 = pdeg b e 0 := by
    unfold ps1
    rw [if_neg nv, if_pos wv]
  have ht := h.q_tki N (Nat.le_refl _)
  rw [if_neg (by omega)] at ht
  have hsum : rs (dgt b e 0) 0 (N : Int) = rs D 0 (N : Int) := rs_congr (fun k k1 k2 => h.q_dgt ⟨k1, k2⟩)
  have hle : rs D 0 (N : Int) ≤ 24 := by
    have q1 : rs D 0 (N : Int) ≤ rs (fun _ => 4) 0 (N : Int) := rs_le (fun k _ _ => (h.rD k).2)
    have q2 : rs (fun _ => (4 : Int)) 0 6 = rs (fun _ => 4) 0 (N : Int) + rs (fun _ => 4) (N : Int) 6 := rs_cut (by omega) (by omega)
    have q3 : 0 ≤ rs (fun _ => (4 : Int)) (N : Int) 6 := rs_nn (fun _ _ _ => by omega)
    have q4 : rs (fun _ => (4 : Int)) 0 6 = 24 := rfl
    omega
  have e2 : pdeg b e 0 = .inr (7 + 2 * (N : Int), (N : Int), 0, (b0 D N).2, zc) := by
    unfold pdeg
    rw [h.q_pdg 9 0 (by omega) (by omega)]
    show (if _ then _ else _) = _
    rw [hsum, ht, if_neg (by omega), b0_cg N (fun i i1 i2 => h.q_dgt ⟨i1, i2⟩)]
  rw [e1, e2]
  show (if tkK b e (7 + 2 * (N : Int)) = 3 then _ else _) = _
  rw [if_pos h.semi.1]
theorem TT.mod (h : TT b e N D m K U V) (st : qEn) : pcl b e (pst b e (8 + 2 * (N : Int)) st) = .inr (14 + 2 * (N : Int), st.1, m, st.2.2.1, st.2.2.2) ∧ tkK b e (8 + 2 * (N : Int)) ≠ 0 ∧ nx b e (14 + 2 * (N : Int)) = 15 + 2 * (N : Int) := by
  have h1 := h.rN
  have h2 := h.rK
  have h3 := h.le
  have hm := h.rm
  obtain ⟨m1, m2, m3, m4, m5⟩ := h.md
  have e0 : ∀ i : Int, 0 ≤ i → i < ((4 : Nat) : Int) → 97 ≤ b (8 + 2 * (N : Int) + i) ∧ b (8 + 2 * (N : Int) + i) ≤ 122 := fun i i1 i2 => by
    rw [m2 i i1 (by omega)]
    have := wd_m i.toNat (by omega)
    rw [show ((i.toNat : Nat) : Int) = i by omega] at this
    exact this
  obtain ⟨k1, k2⟩ := tk_word (b := b) (e := e) (s := 8 + 2 * (N : Int)) (l := 4) (by omega) (by omega) e0 (by rw [show 8 + 2 * (N : Int) + ((4 : Nat) : Int) = 12 + 2 * (N : Int) by omega, m3]; decide)
  rw [show 8 + 2 * (N : Int) + ((4 : Nat) : Int) = 12 + 2 * (N : Int) by omega] at k2
  have n1 : nx b e (8 + 2 * (N : Int)) = 13 + 2 * (N : Int) := by
    unfold nx
    rw [k2, tkS_1 (by omega) m3 (by rw [show 12 + 2 * (N : Int) + 1 = 13 + 2 * (N : Int) by omega, m4]; omega)]
    omega
  obtain ⟨d1, d2, d3⟩ := tk_dig (b := b) (e := e) (s := 13 + 2 * (N : Int)) (by omega) (by rw [m4]; omega) (by rw [show 13 + 2 * (N : Int) + 1 = 14 + 2 * (N : Int) by omega, m5]; omega)
  have dv : tkV b e (13 + 2 * (N : Int)) = m := by
    rw [d3, m4]
    omega
  have n2 : nx b e (13 + 2 * (N : Int)) = 14 + 2 * (N : Int) := by
    unfold nx
    rw [d2, show 13 + 2 * (N : Int) + 1 = 14 + 2 * (N : Int) by omega, tkS_0 (by rw [m5]; omega)]
  obtain ⟨s1, s2⟩ := tk_semi (b := b) (e := e) (s := 14 + 2 * (N : Int)) (by omega) m5
  have w0 := m2 0 (by omega) (by omega)
  rw [wd_me.1] at w0
  have ne : ¬ isW b e (8 + 2 * (N : Int)) 1000002 := fun q => by
    have := q.2.2 0 (by omega) (by rw [qsl_s.2.2.1]; omega)
    rw [w0, wd_me.2] at this
    omega
  have nt : ¬ isW b e (8 + 2 * (N : Int)) 1000003 := fun q => by
    have := q.2.1
    rw [k2, qsl_s.2.2.2.1] at this
    omega
  have wm : isW b e (8 + 2 * (N : Int)) 1000004 := ⟨k1, by rw [k2, qsl_s.2.2.2.2]; omega, fun k q1 q2 => by
    rw [qsl_s.2.2.2.2] at q2
    exact m2 k q1 q2⟩
  refine ⟨?_, by omega, ?_⟩
  · have e1 : pst b e (8 + 2 * (N : Int)) st = pmod b e (8 + 2 * (N : Int)) st := by
      unfold pst
      rw [if_neg ne, if_neg nt, if_pos wm]
    have e2 : pmod b e (8 + 2 * (N : Int)) st = .inr (14 + 2 * (N : Int), st.1, m, st.2.2.1, st.2.2.2) := by
      unfold pmod
      rw [n1, pnum_ok d1 (by rw [dv]; omega), dv, n2]
      rfl
    rw [e1, e2]
    show (if tkK b e (14 + 2 * (N : Int)) = 3 then _ else _) = _
    rw [if_pos s1]
  · unfold nx
    rw [s2, show 14 + 2 * (N : Int) + 1 = 15 + 2 * (N : Int) by omega]
    by_cases c : 0 < K
    · have w := (h.ed 0 c).1 0 (by omega) (by omega)
      rw [wd_me.2, show 15 + 2 * (N : Int) + 9 * ((0 : Nat) : Int) + 0 = 15 + 2 * (N : Int) by omega] at w
      exact tkS_0 (by rw [w]; omega)
    · rw [show 15 + 2 * (N : Int) = e by omega]
      exact tkS_e
theorem TT.edg (h : TT b e N D m K U V) {j : Nat} (hj : j < K) {st : qEn} (hN : st.1 = (N : Int)) (h16 : Ed st.2.2.1 + 1 ≤ 16) : pcl b e (pst b e (15 + 2 * (N : Int) + 9 * (j : Int)) st) = .inr (23 + 2 * (N : Int) + 9 * (j : Int), st.1, st.2.1, addc st.2.2.1 (U j) (V j) 1, st.2.2.2) ∧ tkK b e (15 + 2 * (N : Int) + 9 * (j : Int)) ≠ 0 ∧ nx b e (23 + 2 * (N : Int) + 9 * (j : Int)) = 15 + 2 * (N : Int) + 9 * ((j + 1 : Nat) : Int) := by
  have h1 := h.rN
  have h2 := h.rK
  have h3 := h.le
  have hu := h.rU j hj
  obtain ⟨m2, m3, m4, m5, m6, m7⟩ := h.ed j hj
  generalize hQ : 15 + 2 * (N : Int) + 9 * (j : Int) = Q at *
  rw [show 19 + 2 * (N : Int) + 9 * (j : Int) = Q + 4 by omega] at m3
  rw [show 20 + 2 * (N : Int) + 9 * (j : Int) = Q + 5 by omega] at m4
  rw [show 21 + 2 * (N : Int) + 9 * (j : Int) = Q + 6 by omega] at m5
  rw [show 22 + 2 * (N : Int) + 9 * (j : Int) = Q + 7 by omega] at m6
  rw [show 23 + 2 * (N : Int) + 9 * (j : Int) = Q + 8 by omega] at m7 ⊢
  have e0 : ∀ i : Int, 0 ≤ i → i < ((4 : Nat) : Int) → 97 ≤ b (Q + i) ∧ b (Q + i) ≤ 122 := fun i i1 i2 => by
    rw [m2 i i1 (by omega)]
    have := wd_e i.toNat (by omega)
    rw [show ((i.toNat : Nat) : Int) = i by omega] at this
    exact this
  obtain ⟨k1, k2⟩ := tk_word (b := b) (e := e) (s := Q) (l := 4) (by omega) (by omega) e0 (by rw [show Q + ((4 : Nat) : Int) = Q + 4 by omega, m3]; decide)
  rw [show Q + ((4 : Nat) : Int) = Q + 4 by omega] at k2
  have n1 : nx b e Q = Q + 5 := by
    unfold nx
    rw [k2, tkS_1 (by omega) m3 (by rw [show Q + 4 + 1 = Q + 5 by omega, m4]; omega)]
    omega
  obtain ⟨d1, d2, d3⟩ := tk_dig (b := b) (e := e) (s := Q + 5) (by omega) (by rw [m4]; omega) (by rw [show Q + 5 + 1 = Q + 6 by omega, m5]; omega)
  have n2 : nx b e (Q + 5) = Q + 7 := by
    unfold nx
    rw [d2, show Q + 5 + 1 = Q + 6 by omega, tkS_1 (by omega) m5 (by rw [show Q + 6 + 1 = Q + 7 by omega, m6]; omega)]
    omega
  obtain ⟨g1, g2, g3⟩ := tk_dig (b := b) (e := e) (s := Q + 7) (by omega) (by rw [m6]; omega) (by rw [show Q + 7 + 1 = Q + 8 by omega, m7]; omega)
  have n3 : nx b e (Q + 7) = Q + 8 := by
    unfold nx
    rw [g2, show Q + 7 + 1 = Q + 8 by omega, tkS_0 (by rw [m7]; omega)]
  obtain ⟨s1, s2⟩ := tk_semi (b := b) (e := e) (s := Q + 8) (by omega) m7
  have vu : tkV b e (Q + 5) = U j := by
    rw [d3, m4]
    omega
  have vv : tkV b e (Q + 7) = V j := by
    rw [g3, m6]
    omega
  have we : isW b e Q 1000002 := ⟨k1, by rw [k2, qsl_s.2.2.1]; omega, fun k q1 q2 => by
    rw [qsl_s.2.2.1] at q2
    exact m2 k q1 q2⟩
  refine ⟨?_, by omega, ?_⟩
  · have e1 : pst b e Q st = pedg b e 2 Q st := by
      unfold pst
      rw [if_pos we]
    have e2 : pedg b e 2 Q st = .inr (Q + 8, st.1, st.2.1, addc st.2.2.1 (U j) (V j) 1, st.2.2.2) := by
      unfold pedg
      rw [n1, n2, n3, pnum_ok d1 (by rw [vu, hN]; omega), pnum_ok g1 (by rw [vv, hN]; omega), vu, vv]
      show (if tkK b e (Q + 8) = 2 then _ else _) = _
      rw [if_neg (by omega), if_pos s1, if_neg (by
        show ¬ 16 < Ed (cT 2 st) + 1
        unfold cT
        rw [if_pos rfl]
        omega)]
      unfold ste
      rw [if_pos rfl, if_pos rfl]
    rw [e1, e2]
    show (if tkK b e (Q + 8) = 3 then _ else _) = _
    rw [if_pos s1]
  · unfold nx
    rw [s2, show Q + 8 + 1 = 15 + 2 * (N : Int) + 9 * ((j + 1 : Nat) : Int) by omega]
    by_cases c : j + 1 < K
    · have w := (h.ed (j + 1) c).1 0 (by omega) (by omega)
      rw [wd_me.2, Int.add_zero] at w
      exact tkS_0 (by rw [w]; omega)
    · rw [show 15 + 2 * (N : Int) + 9 * ((j + 1 : Nat) : Int) = e by omega]
      exact tkS_e
theorem TT.rest (h : TT b e N D m K U V) {c : Int → Int → Int} (hc : Ed c ≤ 12) : ∀ (d j k : Nat), j + d = K → d < k → Ed (eds U V c j) = Ed c + (j : Int) → pall b e k (15 + 2 * (N : Int) + 9 * (j : Int)) ((N : Int), m, eds U V c j, zc) = .inr ((N : Int), m, eds U V c K, zc)
  | 0, j, k, hj, hk, _ => by
    obtain ⟨k, rfl⟩ : ∃ k', k = k' + 1 := ⟨k - 1, by omega⟩
    have e1 : 15 + 2 * (N : Int) + 9 * (j : Int) = e := by have := h.le; omega
    refine (pall_s b e k _ _).trans ?_
    rw [e1, if_pos tk_end, show j = K by omega]
  | d + 1, j, k, hj, hk, hE => by
    obtain ⟨k, rfl⟩ : ∃ k', k = k' + 1 := ⟨k - 1, by omega⟩
    have h1 := h.rN
    have h2 := h.rK
    have hu := h.rU j (by omega)
    obtain ⟨q1, q2, q3⟩ := h.edg (j := j) (by omega) (st := ((N : Int), m, eds U V c j, zc)) rfl (by show Ed (eds U V c j) + 1 ≤ 16; omega)
    refine (pall_s b e k _ _).trans ?_
    rw [if_neg q2, q1]
    show pall b e k (nx b e (23 + 2 * (N : Int) + 9 * (j : Int))) ((N : Int), m, addc (eds U V c j) (U j) (V j) 1, zc) = _
    rw [q3]
    refine TT.rest h hc d (j + 1) k (by omega) (by omega) ?_
    show Ed (addc (eds U V c j) (U j) (V j) 1) = _
    rw [Ed_addc (by omega) (by omega), hE]
    omega
theorem TT.all (h : TT b e N D m K U V) (hs : rs D 0 (N : Int) % 2 = 0) (hc : Ed (b0 D N).2 ≤ 12) : ptx b e = .inr ((N : Int), m, eds U V (b0 D N).2 K, zc) := by
  obtain ⟨f1, f2, f3, f4⟩ := h.first
  have h2 := h.rK
  unfold ptx
  rw [f1, if_neg (by omega), h.q_ps1 hs]
  show pall b e 401 (nx b e (7 + 2 * (N : Int))) ((N : Int), 0, (b0 D N).2, zc) = _
  rw [h.semi.2]
  obtain ⟨q1, q2, q3⟩ := h.mod ((N : Int), 0, (b0 D N).2, zc)
  refine (pall_s b e 400 _ _).trans ?_
  rw [if_neg q2, q1]
  show pall b e 400 (nx b e (14 + 2 * (N : Int))) ((N : Int), m, (b0 D N).2, zc) = _
  rw [q3]
  have := h.rest hc K 0 400 (by omega) (by omega) (by show Ed (b0 D N).2 = _; omega)
  rw [show 15 + 2 * (N : Int) + 9 * ((0 : Nat) : Int) = 15 + 2 * (N : Int) by omega] at this
  exact this
end TTS
