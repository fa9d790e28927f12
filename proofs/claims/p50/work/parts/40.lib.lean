/-! LOOPS, SUMS, NUMBERS -/
theorem lp_seq {α β : Type} {f : α → Option (α ⊕ β)} (x : Nat → α) (L : Nat) {b : β} (hs : ∀ j, j < L → f (x j) = some (.inl (x (j + 1)))) (he : f (x L) = some (.inr b)) : ∀ n, L < n → lp f n (x 0) = some b := by
  have key : ∀ k j, j + k = L → ∀ n, k < n → lp f n (x j) = some b := by
    intro k
    induction k with
    | zero =>
      intro j hj n hn
      cases n with
      | zero => omega
      | succ n =>
        have : j = L := by omega
        subst this
        rw [lp_s, he]
        rfl
    | succ k ih =>
      intro j hj n hn
      cases n with
      | zero => omega
      | succ n =>
        rw [lp_s, hs j (by omega)]
        exact ih (j + 1) (by omega) n (by omega)
  intro n hn
  exact key L 0 (by omega) n hn
theorem lp_inv {α β : Type} {f : α → Option (α ⊕ β)} (P : Nat → α → Prop) (Q : β → Prop) (h : ∀ k x, P k x → (∃ b, f x = some (.inr b) ∧ Q b) ∨ (∃ k' x', f x = some (.inl x') ∧ k' < k ∧ P k' x')) : ∀ n k x, P k x → k < n → ∃ b, lp f n x = some b ∧ Q b := by
  intro n
  induction n with
  | zero => intro k x _ hk; omega
  | succ n ih =>
    intro k x hP hk
    rcases h k x hP with ⟨b, h1, h2⟩ | ⟨k', x', h1, h2, h3⟩
    · exact ⟨b, by rw [lp_s, h1]; rfl, h2⟩
    · obtain ⟨b, h4, h5⟩ := ih k' x' h3 (by omega)
      exact ⟨b, by rw [lp_s, h1]; exact h4, h5⟩
/-- sums: from a on, l terms -/
def sl (f : Int → Int) (a : Int) : Nat → Int
  | 0 => 0
  | l + 1 => f a + sl f (a + 1) l
def rs (f : Int → Int) (a b : Int) : Int := sl f a (b - a).toNat
theorem rs_end {f : Int → Int} {a b : Int} (h : b ≤ a) : rs f a b = 0 := by
  unfold rs
  rw [show (b - a).toNat = 0 by omega]
  rfl
theorem rs_step {f : Int → Int} {a b : Int} (h : a < b) : rs f a b = f a + rs f (a + 1) b := by
  unfold rs
  rw [show (b - a).toNat = (b - (a + 1)).toNat + 1 by omega]
  rfl
theorem sl_congr {f g : Int → Int} : ∀ (l : Nat) (a : Int), (∀ k, a ≤ k → k < a + l → f k = g k) → sl f a l = sl g a l
  | 0, _, _ => rfl
  | l + 1, a, h => by
    unfold sl
    rw [h a (by omega) (by omega), sl_congr l (a + 1) (fun k h1 h2 => h k (by omega) (by omega))]
theorem rs_congr {f g : Int → Int} {a b : Int} (h : ∀ k, a ≤ k → k < b → f k = g k) : rs f a b = rs g a b :=
  sl_congr _ _ (fun k h1 h2 => h k h1 (by omega))
theorem sl_app {f : Int → Int} : ∀ (l m : Nat) (a : Int), sl f a (l + m) = sl f a l + sl f (a + l) m
  | 0, m, a => by
    rw [Nat.zero_add, show (a + ((0 : Nat) : Int)) = a by omega]
    show _ = 0 + _
    omega
  | l + 1, m, a => by
    rw [show l + 1 + m = (l + m) + 1 by omega]
    show f a + sl f (a + 1) (l + m) = f a + sl f (a + 1) l + _
    rw [sl_app l m (a + 1), show a + 1 + (l : Int) = a + ((l + 1 : Nat) : Int) by omega]
    omega
theorem rs_cut {f : Int → Int} {a m b : Int} (h1 : a ≤ m) (h2 : m ≤ b) : rs f a b = rs f a m + rs f m b := by
  unfold rs
  rw [show (b - a).toNat = (m - a).toNat + (b - m).toNat by omega, sl_app, show a + (((m - a).toNat : Nat) : Int) = m by omega]
theorem rs_last {f : Int → Int} {a b : Int} (h : a ≤ b) : rs f a (b + 1) = rs f a b + f b := by
  rw [rs_cut h (by omega), rs_step (show b < b + 1 by omega), rs_end (Int.le_refl _)]
  omega
theorem sl_zero {f : Int → Int} : ∀ (l : Nat) (a : Int), (∀ k, a ≤ k → k < a + l → f k = 0) → sl f a l = 0
  | 0, _, _ => rfl
  | l + 1, a, h => by
    unfold sl
    rw [h a (by omega) (by omega), sl_zero l (a + 1) (fun k h1 h2 => h k (by omega) (by omega))]
    rfl
theorem rs_zero {f : Int → Int} {a b : Int} (h : ∀ k, a ≤ k → k < b → f k = 0) : rs f a b = 0 := sl_zero _ _ (fun k h1 h2 => h k h1 (by omega))
theorem rs_tail {f : Int → Int} {a m b : Int} (h1 : a ≤ m) (h2 : m ≤ b) (h : ∀ k, m ≤ k → k < b → f k = 0) : rs f a b = rs f a m := by
  rw [rs_cut h1 h2, rs_zero h]
  omega
theorem sl_add {f g : Int → Int} : ∀ (l : Nat) (a : Int), sl (fun k => f k + g k) a l = sl f a l + sl g a l
  | 0, _ => rfl
  | l + 1, a => by
    unfold sl
    rw [sl_add l (a + 1)]
    omega
theorem rs_add {f g : Int → Int} {a b : Int} : rs (fun k => f k + g k) a b = rs f a b + rs g a b := sl_add _ _
theorem sl_nn {f : Int → Int} : ∀ (l : Nat) (a : Int), (∀ k, a ≤ k → k < a + l → 0 ≤ f k) → 0 ≤ sl f a l
  | 0, _, _ => Int.le_refl _
  | l + 1, a, h => by
    unfold sl
    have h1 := h a (by omega) (by omega)
    have h2 := sl_nn l (a + 1) (fun k h1 h2 => h k (by omega) (by omega))
    omega
theorem rs_nn {f : Int → Int} {a b : Int} (h : ∀ k, a ≤ k → k < b → 0 ≤ f k) : 0 ≤ rs f a b := sl_nn _ _ (fun k h1 h2 => h k h1 (by omega))
theorem sl_le {f g : Int → Int} : ∀ (l : Nat) (a : Int), (∀ k, a ≤ k → k < a + l → f k ≤ g k) → sl f a l ≤ sl g a l
  | 0, _, _ => Int.le_refl _
  | l + 1, a, h => by
    unfold sl
    have h1 := h a (by omega) (by omega)
    have h2 := sl_le l (a + 1) (fun k h1 h2 => h k (by omega) (by omega))
    omega
theorem rs_le {f g : Int → Int} {a b : Int} (h : ∀ k, a ≤ k → k < b → f k ≤ g k) : rs f a b ≤ rs g a b := sl_le _ _ (fun k h1 h2 => h k h1 (by omega))
/-- one term -/
theorem rs_one {f : Int → Int} {a b : Int} {j : Int} (h1 : a ≤ j) (h2 : j < b) (h : ∀ k, a ≤ k → k < b → k ≠ j → f k = 0) : rs f a b = f j := by
  rw [rs_cut h1 (by omega : j ≤ b), rs_step h2, rs_zero (fun k q1 q2 => h k q1 (by omega) (by omega)), rs_zero (fun k q1 q2 => h k (by omega) q2 (by omega))]
  omega
theorem rs_ge {f : Int → Int} {a b : Int} {j : Int} (h1 : a ≤ j) (h2 : j < b) (h : ∀ k, a ≤ k → k < b → 0 ≤ f k) : f j ≤ rs f a b := by
  rw [rs_cut h1 (by omega : j ≤ b), rs_step h2]
  have q1 := rs_nn (f := f) (a := a) (b := j) (fun k q1 q2 => h k q1 (by omega))
  have q2 := rs_nn (f := f) (a := j + 1) (b := b) (fun k q1 q2 => h k (by omega) q2)
  omega
/-- a loop that sums -/
theorem lp_rs {f : Int × Int → Option ((Int × Int) ⊕ Int)} {g : Int → Int} {b : Int} (a : Int) (hs : ∀ z k, a ≤ k → k < b → f (z, k) = some (.inl (z + g k, k + 1))) (he : ∀ z, f (z, b) = some (.inr z)) : ∀ n z k, a ≤ k → k ≤ b → (b - k).toNat < n → lp f n (z, k) = some (z + rs g k b) := by
  intro n
  induction n with
  | zero => intro z k _ _ h; omega
  | succ n ih =>
    intro z k h1 h2 h3
    by_cases hk : k < b
    · rw [lp_s, hs z k h1 hk]
      show lp f n (z + g k, k + 1) = _
      rw [ih (z + g k) (k + 1) (by omega) (by omega) (by omega), rs_step hk]
      congr 1
      omega
    · have : k = b := by omega
      subst this
      rw [lp_s, he z, rs_end (Int.le_refl _)]
      show some z = _
      congr 1
      omega
/-! reading and writing -/
theorem qLd_in {μ : qMu} {a n : Nat} {i : Int} (h : 0 ≤ i ∧ i < (n : Int)) : qLd μ a n i = some (rd μ a i) := by
  unfold qLd
  rw [if_pos h]
theorem qSa_in {μ : qMu} {a n : Nat} {i v : Int} (h : 0 ≤ i ∧ i < (n : Int)) : qSa μ a n i v = some (up μ a i v) := by
  unfold qSa
  rw [if_pos h]
theorem qPf_eq {μ : qMu} {a : Nat} {i v : Int} : qPf μ a i v = some (up μ a i v) := rfl
theorem rd_at {μ : qMu} {a : Nat} {i v : Int} : rd (up μ a i v) a i = wr v := by
  rw [rd_up, if_pos ⟨rfl, rfl⟩]
theorem rd_na {μ : qMu} {a b : Nat} {i j v : Int} (h : b ≠ a) : rd (up μ a i v) b j = rd μ b j := by
  rw [rd_up, if_neg (fun q => h q.1)]
theorem rd_ni {μ : qMu} {a b : Nat} {i j v : Int} (h : j ≠ i) : rd (up μ a i v) b j = rd μ b j := by
  rw [rd_up, if_neg (fun q => h q.2)]
theorem rd_r (μ : qMu) (a : Nat) (i : Int) : -2147483648 ≤ rd μ a i ∧ rd μ a i ≤ 2147483647 := by
  unfold rd
  have h1 := Int32.le_toInt (μ a i)
  have h2 := Int32.toInt_lt (μ a i)
  omega
theorem mu_ext {μ1 μ2 : qMu} (h : ∀ a i, rd μ1 a i = rd μ2 a i) : μ1 = μ2 := by
  funext a i
  exact Int32.toInt_inj.mp (h a i)
theorem mx_id {x y : Int} (h1 : -2147483648 ≤ x ∧ x ≤ 2147483647) (h2 : -2147483648 ≤ y ∧ y ≤ 2147483647) : mx x y = if x < y then y else x := by
  unfold mx
  rw [wr_id h1.1 h1.2, wr_id h2.1 h2.2]
theorem mn_id {x y : Int} (h1 : -2147483648 ≤ x ∧ x ≤ 2147483647) (h2 : -2147483648 ≤ y ∧ y ≤ 2147483647) : mn x y = if y < x then y else x := by
  unfold mn
  rw [wr_id h1.1 h1.2, wr_id h2.1 h2.2]
theorem obs {α β : Type} (x : α) (f : α → Option β) : (some x).bind f = f x := rfl
