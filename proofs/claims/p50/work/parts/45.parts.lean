/-! the reference's components, and the counts of both sides -/
/-- how many are not told yet -/
def opn (N : Int) (ν : qMu) : Int := rs (fun v => if rd ν 84 v = -1 then 1 else 0) 0 N
theorem opn_nn (N : Int) (ν : qMu) : 0 ≤ opn N ν := rs_nn (fun k _ _ => by split <;> omega)
theorem opn_le {N : Int} (hN : 0 ≤ N) (ν : qMu) : opn N ν ≤ N := by
  have h1 : opn N ν ≤ rs (fun _ => (1 : Int)) 0 N := rs_le (fun k _ _ => by split <;> omega)
  have h2 : ∀ l : Nat, ∀ a : Int, sl (fun _ => (1 : Int)) a l = (l : Int) := by
    intro l
    induction l with
    | zero => intro a; rfl
    | succ l ih => intro a; unfold sl; rw [ih]; omega
  have h3 : rs (fun _ => (1 : Int)) 0 N = N := by
    unfold rs
    rw [h2]
    omega
  omega
theorem opn_up {N : Int} {ν : qMu} {v x : Int} (hv : 0 ≤ v ∧ v < N) (h : rd ν 84 v = -1) (hx : wr x ≠ -1) : opn N (up ν 84 v x) = opn N ν - 1 := by
  unfold opn
  rw [rs_cut hv.1 (by omega : v ≤ N), rs_step hv.2, rs_cut (f := fun w => if rd ν 84 w = -1 then (1 : Int) else 0) hv.1 (by omega : v ≤ N), rs_step (f := fun w => if rd ν 84 w = -1 then (1 : Int) else 0) hv.2]
  rw [rs_congr (f := fun w => if rd (up ν 84 v x) 84 w = -1 then (1 : Int) else 0) (g := fun w => if rd ν 84 w = -1 then (1 : Int) else 0) (a := 0) (b := v) (fun k h1 h2 => by rw [rd_ni (by omega)]), rs_congr (f := fun w => if rd (up ν 84 v x) 84 w = -1 then (1 : Int) else 0) (g := fun w => if rd ν 84 w = -1 then (1 : Int) else 0) (a := v + 1) (b := N) (fun k h1 h2 => by rw [rd_ni (by omega)])]
  rw [rd_at, if_neg hx, if_pos h]
  omega
section SPR
variable {μ : qMu} {n : Nat} {N m : Int} {c t s : Int → Int}
end SPR
section SPR2
variable {μ : qMu} {n : Nat} {N m : Int} {c t : Int → Int → Int} {s : Int → Int}
/-- what is laid while the component of u0 is spread -/
def Sp (N : Int) (s : Int → Int) (u0 : Int) (ν : qMu) : Prop := rd ν 84 u0 = idx s u0 ∧ ∀ v, (0 ≤ v ∧ v < N) → (s v < u0 → rd ν 84 v = idx s (s v)) ∧ (u0 < s v → rd ν 84 v = -1) ∧ (s v = u0 → rd ν 84 v = idx s u0 ∨ rd ν 84 v = -1)
theorem Sp.is {N u0 : Int} {s : Int → Int} {ν : qMu} (h : Sp N s u0 ν) (h0 : 0 ≤ u0) (hs : ∀ v, (0 ≤ v ∧ v < N) → 0 ≤ s v ∧ s v ≤ v ∧ s (s v) = s v) {v : Int} (hv : 0 ≤ v ∧ v < N) (hq : rd ν 84 v = idx s u0) : s v = u0 := by
  obtain ⟨h1, h2, h3⟩ := h.2 v hv
  have h4 := hs v hv
  have h5 := idx_nn s u0
  by_cases q1 : s v < u0
  · have := idx_lt s h4.1 q1 h4.2.2
    have := h1 q1
    omega
  · by_cases q2 : u0 < s v
    · have := h2 q2
      omega
    · omega
end SPR2
